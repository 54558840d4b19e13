/-! Arrays.fill; what a build takes from lots -/
set_option maxRecDepth 100000 in
theorem b292_0 (d : Nat) (I : tI) (J : tJ) (x : Bool) (a : Nat) (v : Int32) : am_G (am_ev (d + 1)) 292 [.ref a, .int v] (I, J, (tc_R x), tc_S, 289, 11479) = (if 20 ≤ (tc_S a).1 ∧ (tc_S a).1 < 28 ∧ a < 289 then am_ev (d + 1) 292 5 [.ref a, .int v, .int 0, .int (Int32.ofNat (tc_S a).2)] [] (I, J, (tc_R x), tc_S, 289, 11479) else none) := (am_G_eq (Nat.le_of_ble_eq_true rfl)).trans ((am_blk (fun pc => Nat.beq pc 5) 7 d 292 0 _ _ _).trans rfl)
set_option maxRecDepth 100000 in
theorem b292_5 (d : Nat) (I : tI) (J : tJ) (x : Bool) (a : Nat) (v i n : Int32) : am_ev (d + 1) 292 5 [.ref a, .int v, .int i, .int n] [] (I, J, (tc_R x), tc_S, 289, 11479) = (if n ≤ i then some (none, (I, J, (tc_R x), tc_S, 289, 11479)) else (if (tc_S a).1 = 20 ∧ a < 289 then (if am_in i (tc_S a).2 then am_ev (d + 1) 292 5 [.ref a, .int v, .int (i + 1), .int n] [] (am_u2 I a (Int32.toNatClampNeg i) v, J, (tc_R x), tc_S, 289, 11479) else none) else none)) := (am_blk (fun pc => Nat.beq pc 5) 12 d 292 5 _ _ _).trans rfl
def fillC (I : tI) (a n : Nat) (v : Int32) : tI := fun k j => if k = a ∧ j < n then v else I k j
theorem c_fill (d : Nat) (I : tI) (J : tJ) (x : Bool) {a n : Nat} (v : Int32) (hs : tc_S a = (20, n)) (ha : a < 289) (hn : n < 2 ^ 31) : am_G (am_ev (d + 1)) 292 [.ref a, .int v] (I, J, (tc_R x), tc_S, 289, 11479) = some (none, (fillC I a n v, J, (tc_R x), tc_S, 289, 11479)) := by
  have s : ∀ k, am_u2 (fillC I a k v) a k v = fillC I a (k + 1) v := by
    intro k
    funext i j
    unfold fillC am_u2
    by_cases q : i = a ∧ j = k
    · rw [if_pos q, if_pos ⟨q.1, by omega⟩]
    · rw [if_neg q]
      dsimp only
      by_cases q2 : i = a ∧ j < k
      · rw [if_pos q2, if_pos ⟨q2.1, by omega⟩]
      · rw [if_neg q2, if_neg (fun w => q2 ⟨w.1, by omega⟩)]
  have z : fillC I a 0 v = I := by
    funext i j
    unfold fillC
    rw [if_neg (fun w => by omega)]
  have run : ∀ k, k ≤ n → am_ev (d + 1) 292 5 [.ref a, .int v, .int (nI 0), .int (nI n)] [] (I, J, (tc_R x), tc_S, 289, 11479) = am_ev (d + 1) 292 5 [.ref a, .int v, .int (nI k), .int (nI n)] [] (fillC I a k v, J, (tc_R x), tc_S, 289, 11479) := by
    intro k
    induction k with
    | zero => intro _; rw [z]
    | succ k ih =>
      intro hk
      (rw [ih (by omega), b292_5, if_neg (nI_ge (by omega) (by omega)), hs, if_pos ⟨rfl, ha⟩, if_pos (nI_in (by omega) (by omega))]; (try simp (disch := omega) only [nI_clamp]); rw [s, nI_1])
  rw [b292_0, hs, if_pos ⟨by omega, by omega, ha⟩]
  refine (run n (Nat.le_refl _)).trans ?_
  rw [b292_5, if_pos (Int32.le_refl _)]
/-! what is taken: N needs by parts, qf the parts of lots, ft whether they are fit, L what they have -/
section TAK
variable (N : Nat → Nat) (qf : Nat → Nat) (ft : Nat → Prop) (L : Nat → Nat)
/-- taken for part q from the lots below l -/
noncomputable def sg (q : Nat) : Nat → Nat
  | 0 => 0
  | l + 1 => sg q l + cite (qf l = q ∧ ft l) (min (N q - sg q l) (L l)) 0
noncomputable def tT (l : Nat) : Nat := cite (ft l) (min (N (qf l) - sg N qf ft L (qf l) l) (L l)) 0
theorem sg_s (q l : Nat) : sg N qf ft L q (l + 1) = sg N qf ft L q l + cite (qf l = q ∧ ft l) (min (N q - sg N qf ft L q l) (L l)) 0 := rfl
theorem sg_e (q l : Nat) : sg N qf ft L q (l + 1) = sg N qf ft L q l + cite (qf l = q) (tT N qf ft L l) 0 := by
  rw [sg_s]
  by_cases h : qf l = q
  · rw [cite_p h]
    unfold tT
    rw [h]
    by_cases f : ft l
    · rw [cite_p ⟨rfl, f⟩, cite_p f]
    · rw [cite_n (fun w => f w.2), cite_n f]
  · rw [cite_n (fun w => h w.1), cite_n h]
theorem sg_mono (q : Nat) : ∀ l k, sg N qf ft L q l ≤ sg N qf ft L q (l + k) := by
  intro l k
  induction k with
  | zero => exact Nat.le_refl _
  | succ k ih => rw [← Nat.add_assoc, sg_s]; omega
theorem tT_le (l : Nat) : tT N qf ft L l ≤ L l := by
  unfold tT
  by_cases f : ft l
  · rw [cite_p f]; exact Nat.min_le_right _ _
  · rw [cite_n f]; omega
theorem tT_0 {l j : Nat} (h : N (qf j) ≤ sg N qf ft L (qf j) l) (hj : l ≤ j) : tT N qf ft L j = 0 := by
  unfold tT
  by_cases f : ft j
  · rw [cite_p f]
    have := sg_mono N qf ft L (qf j) l (j - l)
    rw [show l + (j - l) = j by omega] at this
    rw [show N (qf j) - sg N qf ft L (qf j) j = 0 by omega]; exact Nat.zero_min _
  · rw [cite_n f]
variable (v : Nat → Int32)
/-- the bits of the lots that are so and give something -/
noncomputable def orS (P : Nat → Prop) : Nat → Int32
  | 0 => 0
  | n + 1 => orS P n ||| cite (P n ∧ 0 < tT N qf ft L n) (v n) 0
theorem orS_s (P : Nat → Prop) (n : Nat) : orS N qf ft L v P (n + 1) = orS N qf ft L v P n ||| cite (P n ∧ 0 < tT N qf ft L n) (v n) 0 := rfl
theorem orS_c {P Q : Nat → Prop} : ∀ n, (∀ j, j < n → 0 < tT N qf ft L j → (P j ↔ Q j)) → orS N qf ft L v P n = orS N qf ft L v Q n := by
  intro n
  induction n with
  | zero => intro _; rfl
  | succ n ih =>
    intro h
    rw [orS_s, orS_s, ih (fun j hj => h j (by omega)), cite_c (c := P n ∧ 0 < tT N qf ft L n) (d := Q n ∧ 0 < tT N qf ft L n) ⟨fun w => ⟨(h n (by omega) w.2).mp w.1, w.2⟩, fun w => ⟨(h n (by omega) w.2).mpr w.1, w.2⟩⟩]
theorem orS_a {P Q : Nat → Prop} {l : Nat} (hl : ¬ P l) (hq : ∀ j, Q j ↔ P j ∨ j = l) (ht : 0 < tT N qf ft L l) : ∀ n, l < n → orS N qf ft L v Q n = orS N qf ft L v P n ||| v l := by
  intro n
  induction n with
  | zero => intro h; omega
  | succ n ih =>
    intro h
    rw [orS_s, orS_s]
    by_cases e : l = n
    · subst e
      rw [cite_p ⟨(hq l).mpr (Or.inr rfl), ht⟩, cite_n (fun w => hl w.1), Int32.or_zero]
      rw [orS_c N qf ft L v l (fun j hj _ => ⟨fun w => ((hq j).mp w).resolve_right (by omega), fun w => (hq j).mpr (Or.inl w)⟩)]
    · rw [ih (by omega), cite_c (c := Q n ∧ 0 < tT N qf ft L n) (d := P n ∧ 0 < tT N qf ft L n) ⟨fun w => ⟨((hq n).mp w.1).resolve_right (fun z => e z.symm), w.2⟩, fun w => ⟨(hq n).mpr (Or.inl w.1), w.2⟩⟩]
      rw [Int32.or_assoc, Int32.or_assoc, Int32.or_comm (v l)]
end TAK
/-! lots after taking from those that are so -/
noncomputable def bM (M : tI) (n : Nat) (P : Nat → Prop) (R : Nat → Nat) : tI := fun a b => cite (a = 53 ∧ b < n ∧ P b) (nI (R b)) (M a b)
noncomputable def bC (C : tI) (n : Nat) (P : Nat → Prop) (R : Nat → Nat) : tI := fun a b => cite (110 ≤ a ∧ a < 110 + n ∧ b = 2 ∧ P (a - 110)) (nI (R (a - 110))) (C a b)
theorem bM_f {M : tI} {n a b : Nat} {P : Nat → Prop} {R : Nat → Nat} (h : a ≠ 53) : bM M n P R a b = M a b := cite_n (fun w => h w.1)
theorem bM_y {M : tI} {n b : Nat} {P : Nat → Prop} {R : Nat → Nat} (h : b < n) (hp : P b) : bM M n P R 53 b = nI (R b) := cite_p ⟨rfl, h, hp⟩
theorem bM_n {M : tI} {n b : Nat} {P : Nat → Prop} {R : Nat → Nat} (hp : ¬ P b) : bM M n P R 53 b = M 53 b := cite_n (fun w => hp w.2.2)
theorem bC_f {C : tI} {n a b : Nat} {P : Nat → Prop} {R : Nat → Nat} (h : 110 ≤ a ∧ a < 110 + n → b ≠ 2) : bC C n P R a b = C a b := cite_n (fun w => h ⟨w.1, w.2.1⟩ w.2.2.1)
theorem bC_y {C : tI} {n b : Nat} {P : Nat → Prop} {R : Nat → Nat} (h : b < n) (hp : P b) : bC C n P R (110 + b) 2 = nI (R b) := by
  unfold bC
  rw [cite_p ⟨by omega, by omega, rfl, by rw [Nat.add_sub_cancel_left]; exact hp⟩, Nat.add_sub_cancel_left]
theorem bC_n {C : tI} {n b : Nat} {P : Nat → Prop} {R : Nat → Nat} (hp : ¬ P b) : bC C n P R (110 + b) 2 = C (110 + b) 2 := cite_n (fun w => by have q := w.2.2.2; rw [Nat.add_sub_cancel_left] at q; exact hp q)
theorem bM_s {M : tI} {n l : Nat} {P Q : Nat → Prop} {R : Nat → Nat} {u : Int32} (hl : l < n) (hu : u = nI (R l)) (hq : ∀ j, Q j ↔ P j ∨ j = l) : am_u2 (bM M n P R) 53 l u = bM M n Q R := by
  funext a b
  by_cases e : a = 53 ∧ b = l
  · obtain ⟨rfl, rfl⟩ := e
    rw [u2_s, bM_y hl ((hq b).mpr (Or.inr rfl)), hu]
  · rw [fr1 (by omega)]
    unfold bM
    exact cite_c ⟨fun w => ⟨w.1, w.2.1, (hq b).mpr (Or.inl w.2.2)⟩, fun w => ⟨w.1, w.2.1, ((hq b).mp w.2.2).resolve_right (fun z => e ⟨w.1, z⟩)⟩⟩
theorem bC_s {C : tI} {n l : Nat} {P Q : Nat → Prop} {R : Nat → Nat} {u : Int32} (hl : l < n) (hu : u = nI (R l)) (hq : ∀ j, Q j ↔ P j ∨ j = l) : am_u2 (bC C n P R) (110 + l) 2 u = bC C n Q R := by
  funext a b
  by_cases e : a = 110 + l ∧ b = 2
  · obtain ⟨rfl, rfl⟩ := e
    rw [u2_s, bC_y hl ((hq l).mpr (Or.inr rfl)), hu]
  · rw [fr1 (by omega)]
    unfold bC
    exact cite_c ⟨fun w => ⟨w.1, w.2.1, w.2.2.1, (hq _).mpr (Or.inl w.2.2.2)⟩, fun w => ⟨w.1, w.2.1, w.2.2.1, ((hq _).mp w.2.2.2).resolve_right (fun z => e ⟨by omega, w.2.2.1⟩)⟩⟩
theorem bM_c {M : tI} {n : Nat} {P Q : Nat → Prop} {R : Nat → Nat} (h0 : ∀ j, j < n → (P j ↔ Q j) ∨ M 53 j = nI (R j)) : bM M n P R = bM M n Q R := by
  funext a b
  by_cases e : a = 53 ∧ b < n
  · obtain ⟨rfl, hb⟩ := e
    rcases h0 b hb with w | w
    · unfold bM
      exact cite_c ⟨fun z => ⟨z.1, z.2.1, w.mp z.2.2⟩, fun z => ⟨z.1, z.2.1, w.mpr z.2.2⟩⟩
    · by_cases p : P b
      · rw [bM_y hb p]
        by_cases q : Q b
        · rw [bM_y hb q]
        · rw [bM_n q, w]
      · rw [bM_n p]
        by_cases q : Q b
        · rw [bM_y hb q, w]
        · rw [bM_n q]
  · unfold bM
    rw [cite_n (fun w => e ⟨w.1, w.2.1⟩), cite_n (fun w => e ⟨w.1, w.2.1⟩)]
theorem bC_c {C : tI} {n : Nat} {P Q : Nat → Prop} {R : Nat → Nat} (h0 : ∀ j, j < n → (P j ↔ Q j) ∨ C (110 + j) 2 = nI (R j)) : bC C n P R = bC C n Q R := by
  funext a b
  by_cases e : 110 ≤ a ∧ a < 110 + n ∧ b = 2
  · obtain ⟨j, rfl⟩ : ∃ j, a = 110 + j := ⟨a - 110, by omega⟩
    obtain ⟨_, hb, rfl⟩ := e
    have hb : j < n := by omega
    rcases h0 j hb with w | w
    · by_cases p : P j
      · rw [bC_y hb p, bC_y hb (w.mp p)]
      · rw [bC_n p, bC_n (fun z => p (w.mpr z))]
    · by_cases p : P j
      · rw [bC_y hb p]
        by_cases q : Q j
        · rw [bC_y hb q]
        · rw [bC_n q, w]
      · rw [bC_n p]
        by_cases q : Q j
        · rw [bC_y hb q, w]
        · rw [bC_n q]
  · unfold bC
    rw [cite_n (fun w => e ⟨w.1, w.2.1, w.2.2.1⟩), cite_n (fun w => e ⟨w.1, w.2.1, w.2.2.1⟩)]
section TAR
variable {x : Bool} {C M : tI} {J : tJ}
theorem Rl.lots (h : Rl x C M J) {n : Nat} (hn : n = Int32.toNatClampNeg (M 0 70)) (P : Nat → Prop) {R : Nat → Nat} (hR : ∀ l, l < n → R l ≤ 60) : Rl x (bC C n P R) (bM M n P R) J := by
  have hx := tc_P4 x
  have n74 := h.n74
  have n66 := h.nbB.cl (by omega)
  have n70 := h.nlB.cl (by omega)
  obtain ⟨h0, hb, hll, htt, hpp, hmm⟩ := h.H
  have fC : ∀ a b, a < 110 ∨ 150 ≤ a → bC C n P R a b = C a b := fun a b q => bC_f (by omega)
  have fM : ∀ a b, a ≠ 53 → bM M n P R a b = M a b := fun a b q => bM_f q
  refine h.flr ⟨h0.fr (fun b => fC 41 b (by omega)) (fun a b _ => fM a b (by omega)), hb.fr n66 (fun a b _ => fC a b (by omega)) (fun a b _ => fM a b (by omega)), ?_, htt.fr n74 (fun a b _ => fC a b (by omega)) (fun a b _ => fM a b (by omega)), hpp.fr n74 (fun a b _ => fC a b (by omega)) (fun a b _ => fM a b (by omega)), hmm.fr (fun a b _ => fC a b (by omega)) (fun a b _ => fM a b (by omega))⟩ (h.V.fr n74 (fun a b _ => fC a b (by omega)) (fun a b _ => fM a b (by omega))) (fun a b _ => fC a b (by omega)) (fun a b _ => fM a b (by omega))
  intro l hl
  rw [fM 0 70 (by omega)] at hl
  have g := hll l hl
  rw [bC_f (a := 110 + l) (b := 0) (by omega), bC_f (a := 110 + l) (b := 1) (by omega), fM 51 _ (by omega), fM 52 _ (by omega), fM 6 _ (by omega), fM 0 66 (by omega)]
  by_cases q : P l
  · rw [bC_y (by omega) q, bM_y (by omega) q]
    exact ⟨g.1, g.2.1, rfl, g.2.2.2.1, g.2.2.2.2.1, g.2.2.2.2.2.1, g.2.2.2.2.2.2.1, bd_nI (hR l (by omega))⟩
  · rw [bC_n q, bM_n q]; exact g
end TAR
