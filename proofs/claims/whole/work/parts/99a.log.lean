/-! CONSTRUCTORS: a run whose memory is a list of what was done -/
abbrev lx_L : Type := List (Nat × Nat × Nat × Nat × Int32)
def lx_1 (M : am_M) (q : Nat × Nat × Nat × Nat × Int32) : am_M := match q.1 with
  | 0 => am_sI M q.2.1 q.2.2.1 q.2.2.2.2
  | 1 => am_sR M q.2.1 q.2.2.1 (some q.2.2.2.1)
  | 2 => am_sR M q.2.1 q.2.2.1 none
  | 3 => am_al M q.2.1 q.2.2.1
  | 4 => am_al2 M q.2.1 q.2.2.1
  | _ => am_sL M q.2.1 q.2.2.1 0
/-- the memory before anything was done: one cell, of kind kd with nf places -/
def lx_0 (kd nf : Nat) : am_M := (fun _ _ => 0, fun _ _ => 0, fun _ _ => none, fun k => if k = 0 then (kd, nf) else (99, 0), 1, nf)
def lx_M (M0 : am_M) : lx_L → am_M
  | [] => M0
  | q :: r => lx_1 (lx_M M0 r) q
def lx_cnd {α : Type} (c : ClassFile.Cond) (x y : Int32) (t e : α) : α := match c with
  | .eq => if x = y then t else e
  | .ne => if x = y then e else t
  | .lt => if x < y then t else e
  | .ge => if y ≤ x then t else e
  | .gt => if y < x then t else e
  | .le => if x ≤ y then t else e
abbrev lx_O : Type := Option (Nat × List Value × List Value × lx_L)
def lx_pf (k j kd pc : Nat) (L r : List Value) (g : lx_L) (v : Value) : lx_O := match kd with
  | 0 => match v with
    | .int x => some (pc + 3, L, r, (0, k, j, 0, x) :: g)
    | _ => none
  | 1 => match v with
    | .long x => if x = 0 then some (pc + 3, L, r, (5, k, j, 0, 0) :: g) else none
    | _ => none
  | 2 => match v with
    | .ref c => some (pc + 3, L, r, (1, k, j, c, 0) :: g)
    | .null => some (pc + 3, L, r, (2, k, j, 0, 0) :: g)
    | _ => none
  | _ => match v with
    | .int x => if x = 0 ∨ x = 1 then some (pc + 3, L, r, (0, k, j, 0, x) :: g) else none
    | _ => none
def lx_p2 (st : List Value) (k : Int32 → Int32 → List Value → lx_O) : lx_O := match st with
  | .int y :: .int x :: r => k x y r
  | _ => none
def lx_p1 (st : List Value) (k : Int32 → List Value → lx_O) : lx_O := match st with
  | .int x :: r => k x r
  | _ => none
def lx_pR (st : List Value) (k : Nat → List Value → lx_O) : lx_O := match st with
  | .ref x :: r => k x r
  | _ => none
def lx_pIR (st : List Value) (k : Int32 → Nat → List Value → lx_O) : lx_O := match st with
  | .int i :: .ref a :: r => k i a r
  | _ => none
def lx_pVIR (st : List Value) (k : Value → Int32 → Nat → List Value → lx_O) : lx_O := match st with
  | v :: .int i :: .ref a :: r => k v i a r
  | _ => none
def lx_pVR (st : List Value) (k : Value → Nat → List Value → lx_O) : lx_O := match st with
  | v :: .ref a :: r => k v a r
  | _ => none
def lx_isI (v : Option Value) (k : Int32 → lx_O) : lx_O := match v with
  | some (.int x) => k x
  | _ => none
def lx_isR (v : Option Value) (k : Nat → lx_O) : lx_O := match v with
  | some (.ref x) => k x
  | _ => none
def lx_step (M0 : am_M) (e : am_E) (pc : Nat) (L st : List Value) (g : lx_L) : lx_O :=
  match e.1 with
  | .iconst n => some (pc + 1, L, .int (Int32.ofInt n) :: st, g)
  | .bipush n => some (pc + 2, L, .int (Int8.ofInt n).toInt32 :: st, g)
  | .sipush n => some (pc + 3, L, .int (Int16.ofInt n).toInt32 :: st, g)
  | .lconst n => some (pc + 1, L, .long (Int64.ofNat n) :: st, g)
  | .ldc _ => some (pc + 2, L, .ref (1000000 + e.2.2.1) :: st, g)
  | .iload_n k => lx_isI L[(k : Nat)]? fun x => some (pc + 1, L, .int x :: st, g)
  | .aload_n k => lx_isR L[(k : Nat)]? fun x => some (pc + 1, L, .ref x :: st, g)
  | .istore_n k => lx_p1 st fun x r => some (pc + 1, am_set1 L k (.int x), r, g)
  | .astore_n k => lx_pR st fun x r => some (pc + 1, am_set1 L k (.ref x), r, g)
  | .iinc k n => lx_isI L[k]? fun x => some (pc + 3, am_set1 L k (.int (x + Int32.ofInt n)), st, g)
  | .iadd => lx_p2 st fun x y r => some (pc + 1, L, .int (x + y) :: r, g)
  | .isub => lx_p2 st fun x y r => some (pc + 1, L, .int (x - y) :: r, g)
  | .imul => lx_p2 st fun x y r => some (pc + 1, L, .int (x * y) :: r, g)
  | .ior => lx_p2 st fun x y r => some (pc + 1, L, .int (x ||| y) :: r, g)
  | .ishl => lx_p2 st fun x y r => some (pc + 1, L, .int (x <<< (y &&& 31)) :: r, g)
  | .dup => match st with
    | v :: r => if v.category = 1 then some (pc + 1, L, v :: v :: r, g) else none
    | _ => none
  | .dup2 => match st with
    | v :: w :: r => if v.category = 1 ∧ w.category = 1 then some (pc + 1, L, v :: w :: v :: w :: r, g) else none
    | _ => none
  | .if_icmp c _ => lx_p2 st fun x y r => lx_cnd c x y (some (e.2.2.1, L, r, g)) (some (pc + 3, L, r, g))
  | .goto _ => some (e.2.2.1, L, st, g)
  | .getfield _ => lx_pR st fun k r => if am_at (lx_M M0 g) k e.2.2.1 then some (pc + 3, L, am_gf (lx_M M0 g) k e.2.2.2.1 e.2.2.2.2 :: r, g) else none
  | .putfield _ => lx_pVR st fun v k r => if am_at (lx_M M0 g) k e.2.2.1 then lx_pf k e.2.2.2.1 e.2.2.2.2 pc L r g v else none
  | .iaload => lx_pIR st fun i k r => if am_at (lx_M M0 g) k 20 then (if am_in i ((lx_M M0 g).2.2.2.1 k).2 then some (pc + 1, L, .int ((lx_M M0 g).1 k i.toNatClampNeg) :: r, g) else none) else none
  | .iastore => lx_pVIR st fun v i k r => lx_isI (some v) fun x => if am_at (lx_M M0 g) k 20 then (if am_in i ((lx_M M0 g).2.2.2.1 k).2 then some (pc + 1, L, r, (0, k, i.toNatClampNeg, 0, x) :: g) else none) else none
  | .aastore => lx_pVIR st fun v i k r => lx_isR (some v) fun x => if am_at (lx_M M0 g) k e.2.2.1 ∧ am_at (lx_M M0 g) x e.2.2.2.1 then (if am_in i ((lx_M M0 g).2.2.2.1 k).2 then some (pc + 1, L, r, (1, k, i.toNatClampNeg, x, 0) :: g) else none) else none
  | .new _ => some (pc + 3, L, .ref (lx_M M0 g).2.2.2.2.1 :: st, (3, e.2.2.1, e.2.2.2.1, 0, 0) :: g)
  | .newarray _ => lx_p1 st fun n r => if n < 0 ∨ 100000 < n then none else some (pc + 2, L, .ref (lx_M M0 g).2.2.2.2.1 :: r, (3, e.2.2.1, n.toNatClampNeg, 0, 0) :: g)
  | .anewarray _ => lx_p1 st fun n r => if n < 0 ∨ 100000 < n then none else some (pc + 3, L, .ref (lx_M M0 g).2.2.2.2.1 :: r, (3, e.2.2.1, n.toNatClampNeg, 0, 0) :: g)
  | .multianewarray _ _ => lx_p2 st fun n m r => if n < 0 ∨ 1000 < n ∨ m < 0 ∨ 1000 < m then none else some (pc + 4, L, .ref (lx_M M0 g).2.2.2.2.1 :: r, (4, n.toNatClampNeg, m.toNatClampNeg, 0, 0) :: g)
  | _ => none
section LXS
variable {M0 : am_M} {e : am_E} {rk : Nat} {K : Nat → Int64} {G : Nat → List Value → am_M → am_O} {f : Nat → List Value → List Value → am_M → am_O} {pc : Nat} {L st : List Value} {g : lx_L} {q : Nat × List Value × List Value × lx_L}
abbrev lx_F (M0 : am_M) (f : Nat → List Value → List Value → am_M → am_O) (q : Nat × List Value × List Value × lx_L) : am_O := f q.1 q.2.1 q.2.2.1 (lx_M M0 q.2.2.2)
theorem lx_s {a : Nat × List Value × List Value × lx_L} (h : some a = some q) : lx_F M0 f a = lx_F M0 f q := by cases h; rfl
theorem lx_tp2 {k : Int32 → Int32 → List Value → lx_O} {k' : Int32 → Int32 → List Value → am_O} (h : lx_p2 st k = some q) (hk : ∀ x y r, k x y r = some q → k' x y r = lx_F M0 f q) : am_p2 st k' = lx_F M0 f q := by
  unfold lx_p2 at h; unfold am_p2; split at h
  · exact hk _ _ _ h
  · cases h
theorem lx_tp1 {k : Int32 → List Value → lx_O} {k' : Int32 → List Value → am_O} (h : lx_p1 st k = some q) (hk : ∀ x r, k x r = some q → k' x r = lx_F M0 f q) : am_p1 st k' = lx_F M0 f q := by
  unfold lx_p1 at h; unfold am_p1; split at h
  · exact hk _ _ h
  · cases h
theorem lx_tpR {k : Nat → List Value → lx_O} {k' : Nat → List Value → am_O} (h : lx_pR st k = some q) (hk : ∀ x r, k x r = some q → k' x r = lx_F M0 f q) : am_pR st k' = lx_F M0 f q := by
  unfold lx_pR at h; unfold am_pR; split at h
  · exact hk _ _ h
  · cases h
theorem lx_tpIR {k : Int32 → Nat → List Value → lx_O} {k' : Int32 → Nat → List Value → am_O} (h : lx_pIR st k = some q) (hk : ∀ x y r, k x y r = some q → k' x y r = lx_F M0 f q) : am_pIR st k' = lx_F M0 f q := by
  unfold lx_pIR at h; unfold am_pIR; split at h
  · exact hk _ _ _ h
  · cases h
theorem lx_tpVIR {k : Value → Int32 → Nat → List Value → lx_O} {k' : Value → Int32 → Nat → List Value → am_O} (h : lx_pVIR st k = some q) (hk : ∀ v x y r, k v x y r = some q → k' v x y r = lx_F M0 f q) : am_pVIR st k' = lx_F M0 f q := by
  unfold lx_pVIR at h; unfold am_pVIR; split at h
  · exact hk _ _ _ _ h
  · cases h
theorem lx_tpVR {k : Value → Nat → List Value → lx_O} {k' : Value → Nat → List Value → am_O} (h : lx_pVR st k = some q) (hk : ∀ v x r, k v x r = some q → k' v x r = lx_F M0 f q) : am_pVR st k' = lx_F M0 f q := by
  unfold lx_pVR at h; unfold am_pVR; split at h
  · exact hk _ _ _ h
  · cases h
theorem lx_tI {v : Option Value} {k : Int32 → lx_O} {k' : Int32 → am_O} (h : lx_isI v k = some q) (hk : ∀ x, k x = some q → k' x = lx_F M0 f q) : am_isI v k' = lx_F M0 f q := by
  unfold lx_isI at h; unfold am_isI; split at h
  · exact hk _ h
  · cases h
theorem lx_tR {v : Option Value} {k : Nat → lx_O} {k' : Nat → am_O} (h : lx_isR v k = some q) (hk : ∀ x, k x = some q → k' x = lx_F M0 f q) : am_isR v k' = lx_F M0 f q := by
  unfold lx_isR at h; unfold am_isR; split at h
  · exact hk _ h
  · cases h
theorem lx_if {c : Prop} [Decidable c] {a : lx_O} {b : am_O} (h : (if c then a else none) = some q) (hk : a = some q → b = lx_F M0 f q) : (if c then b else none) = lx_F M0 f q := by
  by_cases z : c
  · rw [if_pos z] at h ⊢; exact hk h
  · rw [if_neg z] at h; cases h
theorem lx_ifn {c : Prop} [Decidable c] {a : lx_O} {b : am_O} (h : (if c then none else a) = some q) (hk : a = some q → b = lx_F M0 f q) : (if c then none else b) = lx_F M0 f q := by
  by_cases z : c
  · rw [if_pos z] at h; cases h
  · rw [if_neg z] at h ⊢; exact hk h
theorem lx_tpf {k j : Nat} {v : Value} {r : List Value} : ∀ {kd : Nat}, lx_pf k j kd pc L r g v = some q → am_pf (lx_M M0 g) k j kd v (fun M => f (pc + 3) L r M) = lx_F M0 f q
  | 0, h => by
    simp only [lx_pf] at h
    simp only [am_pf]
    split at h
    · exact lx_s h
    · cases h
  | 1, h => by
    simp only [lx_pf] at h
    simp only [am_pf]
    split at h
    · rename_i x
      by_cases z : x = 0
      · rw [if_pos z] at h; rw [z]; exact lx_s h
      · rw [if_neg z] at h; cases h
    · cases h
  | 2, h => by
    simp only [lx_pf] at h
    simp only [am_pf]
    split at h
    · exact lx_s h
    · exact lx_s h
    · cases h
  | n + 3, h => by
    simp only [lx_pf] at h
    simp only [am_pf]
    split at h
    · exact lx_if h (fun h => lx_s h)
    · cases h
theorem lx_tcnd {c : ClassFile.Cond} {x y : Int32} {a b : Nat × List Value × List Value × lx_L} (h : lx_cnd c x y (some a) (some b) = some q) : am_cnd c x y (lx_F M0 f a) (lx_F M0 f b) = lx_F M0 f q := by
  cases c <;> simp only [lx_cnd] at h <;> simp only [am_cnd] <;> split at h <;> (rename_i z; simp only [z, if_true, if_false]; exact lx_s h)
theorem lx_ok (h : lx_step M0 e pc L st g = some q) : am_step e rk K G f pc L st (lx_M M0 g) = lx_F M0 f q := by
  unfold lx_step at h
  unfold am_step
  split at h
  all_goals first | (rename_i he; rw [he]) | (rename_i n he; rw [he]) | (rename_i n m he; rw [he]) | skip
  all_goals (try dsimp only)
  all_goals first
    | exact lx_s h
    | exact lx_tI h (fun x h => lx_s h)
    | exact lx_tR h (fun x h => lx_s h)
    | exact lx_tp1 h (fun x r h => lx_s h)
    | exact lx_tpR h (fun x r h => lx_s h)
    | exact lx_tp2 h (fun x y r h => lx_s h)
    | exact lx_tp2 h (fun x y r h => lx_tcnd h)
    | exact lx_tpR h (fun x r h => lx_if h lx_s)
    | exact lx_tpVR h (fun v x r h => lx_if h lx_tpf)
    | exact lx_tpVIR h (fun v x y r h => lx_tI h (fun w h => lx_if h (fun h => lx_if h lx_s)))
    | exact lx_tpVIR h (fun v x y r h => lx_tR h (fun w h => lx_if h (fun h => lx_if h lx_s)))
    | exact lx_tp1 h (fun x r h => lx_ifn h lx_s)
    | exact lx_tp2 h (fun x y r h => lx_ifn h lx_s)
    | skip
  · split at h
    · exact lx_if h lx_s
    · cases h
  · split at h
    · exact lx_if h lx_s
    · cases h
  · refine lx_tpIR h (fun i k r h => ?_)
    by_cases z : am_at (lx_M M0 g) k 20
    · rw [if_pos z] at h ⊢; exact lx_if h lx_s
    · rw [if_neg z] at h; cases h
  · cases h
end LXS
/-- calls: 99 Object's own constructor, 60 charAt, else a method that answers nothing -/
def lx_inv (e : am_E) (C : Nat → List Value → lx_L → Option lx_L) (pc : Nat) (L st : List Value) (M : am_M) (g : lx_L) : lx_O :=
  match e.2.2.2.2 with
  | 99 => lx_pR st fun _ r => if am_cats r ≤ 8 then some (pc + 3, L, r, g) else none
  | 60 => lx_pIR st fun i k r => if k = 1000000 ∧ i.toInt < 192 ∧ 0 ≤ i.toInt ∧ am_cats r ≤ 8 then some (pc + 3, L, .int ((am_txt 0).getD i.toNatClampNeg 0) :: r, g) else none
  | 61 => none
  | 50 => none
  | 40 => none
  | kd => match (st.take e.2.2.2.1).reverse with
    | .ref k :: as => if am_at M k kd ∧ am_cats (st.drop e.2.2.2.1) ≤ 8 ∧ e.2.2.2.1 ≤ st.length then (match C e.2.2.1 (.ref k :: as) g with
      | some g' => some (pc + 3, L, st.drop e.2.2.2.1, g')
      | none => none) else none
    | _ => none
def lx_isC (i : Instr) : Bool := match i with
  | .invokespecial _ => true
  | .invokevirtual _ => true
  | _ => false
def lx_isT (i : Instr) : Bool := match i with
  | .return_ => true
  | _ => false
noncomputable def lx_ex (M0 : am_M) (C : Nat → List Value → lx_L → Option lx_L) (mi : Nat) (n : Nat) : Nat → List Value → List Value → lx_L → Option lx_L := Nat.rec (fun _ _ _ _ => none) (fun _ ih pc L st g =>
  cond (lx_isT (am_ent mi pc).1) (match st with
    | [] => cond (Nat.beq (am_rk mi) 0) (some g) none
    | _ => none) (match cond (lx_isC (am_ent mi pc).1) (lx_inv (am_ent mi pc) C pc L st (lx_M M0 g) g) (lx_step M0 (am_ent mi pc) pc L st g) with
      | some q => ih q.1 q.2.1 q.2.2.1 q.2.2.2
      | none => none)) n
section LXE
variable {M0 : am_M} {e : am_E} {rk : Nat} {K : Nat → Int64} {G : Nat → List Value → am_M → am_O} {f : Nat → List Value → List Value → am_M → am_O} {pc : Nat} {L st : List Value} {g : lx_L} {q : Nat × List Value × List Value × lx_L} {C : Nat → List Value → lx_L → Option lx_L}
theorem lx_inv_ok (hC : ∀ a as g g', C a as g = some g' → G a as (lx_M M0 g) = some (none, lx_M M0 g')) (h : lx_inv e C pc L st (lx_M M0 g) g = some q) : am_inv e G f pc L st (lx_M M0 g) = lx_F M0 f q := by
  unfold lx_inv at h
  unfold am_inv
  split at h
  · rename_i he; rw [he]
    exact lx_tpR h (fun x r h => lx_if h lx_s)
  · rename_i he; rw [he]
    exact lx_tpIR h (fun x y r h => lx_if h lx_s)
  · cases h
  · cases h
  · cases h
  · rename_i h1 h2 h3 h4 h5
    split
    · rename_i z; exact absurd z h1
    · rename_i z; exact absurd z h2
    · rename_i z; exact absurd z h3
    · rename_i z; exact absurd z h4
    · rename_i z; exact absurd z h5
    · split at h
      · rename_i k as hs
        rw [hs]
        dsimp only
        refine lx_if h (fun h => ?_)
        split at h
        · rename_i g' hg
          rw [hC _ _ _ _ hg]
          exact lx_s h
        · cases h
      · cases h
theorem lx_ex_ok (hC : ∀ a as g g', C a as g = some g' → G a as (lx_M M0 g) = some (none, lx_M M0 g')) (mi : Nat) : ∀ n pc L st g g', lx_ex M0 C mi n pc L st g = some g' → am_ex G mi n pc L st (lx_M M0 g) = some (none, lx_M M0 g') := by
  intro n
  induction n with
  | zero => intro pc L st g g' h; cases h
  | succ n ih =>
    intro pc L st g g' h
    show am_step (am_ent mi pc) (am_rk mi) am_K G (am_ex G mi n) pc L st (lx_M M0 g) = _
    change cond (lx_isT (am_ent mi pc).1) _ _ = some g' at h
    cases hT : lx_isT (am_ent mi pc).1 with
    | true =>
      rw [hT] at h
      have he : (am_ent mi pc).1 = .return_ := by
        unfold lx_isT at hT; split at hT
        · assumption
        · cases hT
      rw [cond_true] at h
      unfold am_step
      rw [he]
      dsimp only
      split at h
      · cases hr : Nat.beq (am_rk mi) 0 with
        | true =>
          rw [hr] at h
          cases h
          rw [if_pos (Nat.eq_of_beq_eq_true hr)]
        | false => rw [hr] at h; cases h
      · cases h
    | false =>
      rw [hT] at h
      change (match cond (lx_isC (am_ent mi pc).1) (lx_inv (am_ent mi pc) C pc L st (lx_M M0 g) g) (lx_step M0 (am_ent mi pc) pc L st g) with
        | some q => lx_ex M0 C mi n q.1 q.2.1 q.2.2.1 q.2.2.2
        | none => none) = some g' at h
      split at h
      · rename_i q hq
        have key : am_step (am_ent mi pc) (am_rk mi) am_K G (am_ex G mi n) pc L st (lx_M M0 g) = lx_F M0 (am_ex G mi n) q := by
          cases hc : lx_isC (am_ent mi pc).1 with
          | true =>
            ((try simp only [hc] at hq))
            have hq : lx_inv (am_ent mi pc) C pc L st (lx_M M0 g) g = some q := hq
            have i := lx_inv_ok (f := am_ex G mi n) hC hq
            unfold lx_isC at hc
            unfold am_step
            split at hc
            · rename_i he; rw [he]; exact i
            · rename_i he; rw [he]; exact i
            · cases hc
          | false =>
            ((try simp only [hc] at hq))
            exact lx_ok hq
        rw [key]
        exact ih _ _ _ _ _ h
      · cases h
end LXE
noncomputable def lx_G (M0 : am_M) (N : Nat) (d : Nat) : Nat → List Value → lx_L → Option lx_L := Nat.rec (fun _ _ _ => none) (fun _ ih a as g => cond (Nat.ble (am_spread as).length (am_ml a)) (lx_ex M0 ih a N 0 (am_pad (am_ml a) (am_spread as)) [] g) none) d
theorem lx_G_ok (M0 : am_M) (N : Nat) : ∀ d a as g g', lx_G M0 N (d + 1) a as g = some g' → am_G (am_ev d) a as (lx_M M0 g) = some (none, lx_M M0 g') := by
  intro d
  induction d with
  | zero =>
    intro a as g g' h
    change cond (Nat.ble (am_spread as).length (am_ml a)) _ _ = some g' at h
    cases hb : Nat.ble (am_spread as).length (am_ml a) with
    | false => rw [hb] at h; cases h
    | true =>
      rw [hb] at h
      rw [am_G_eq (Nat.le_of_ble_eq_true hb)]
      exact am_run_iff.mpr ⟨N, lx_ex_ok (C := lx_G M0 N 0) (G := fun _ _ _ => none) (fun _ _ _ _ h => by cases h) a N 0 _ [] g g' h⟩
  | succ d ih =>
    intro a as g g' h
    change cond (Nat.ble (am_spread as).length (am_ml a)) _ _ = some g' at h
    cases hb : Nat.ble (am_spread as).length (am_ml a) with
    | false => rw [hb] at h; cases h
    | true =>
      rw [hb] at h
      rw [am_G_eq (Nat.le_of_ble_eq_true hb)]
      exact am_run_iff.mpr ⟨N, lx_ex_ok (C := lx_G M0 N (d + 1)) (G := am_G (am_ev d)) ih a N 0 _ [] g g' h⟩
