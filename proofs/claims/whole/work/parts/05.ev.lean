/-! RUNNING: a method by fuel, its limit, and the equation that the limit meets. -/
noncomputable def am_ent (mi pc : Nat) : am_E := cond (Nat.blt pc (am_sz mi)) (am_tab mi pc) am_bad
noncomputable def am_st (g : Nat → List Value → am_M → am_O) (mi : Nat) (f : Nat → List Value → List Value → am_M → am_O) : Nat → List Value → List Value → am_M → am_O := fun pc L st M => am_step (am_ent mi pc) (am_rk mi) am_K g f pc L st M
noncomputable def am_ex (g : Nat → List Value → am_M → am_O) (mi : Nat) (n : Nat) : Nat → List Value → List Value → am_M → am_O := Nat.rec (fun _ _ _ _ => none) (fun _ ih => am_st g mi ih) n
/-- at most one way on: the step either ends, or goes on at one place, whatever comes behind -/
def am_Tail (F : (Nat → List Value → List Value → am_M → am_O) → am_O) : Prop := (∃ c, ∀ f, F f = c) ∨ ∃ pc L st M, ∀ f, F f = f pc L st M
theorem am_tc (c : am_O) : am_Tail (fun _ => c) := Or.inl ⟨c, fun _ => rfl⟩
theorem am_tf (pc : Nat) (L st : List Value) (M : am_M) : am_Tail (fun f => f pc L st M) := Or.inr ⟨pc, L, st, M, fun _ => rfl⟩
theorem am_tite {c : Prop} [Decidable c] {F G : (Nat → List Value → List Value → am_M → am_O) → am_O} (hF : am_Tail F) (hG : am_Tail G) : am_Tail (fun f => if c then F f else G f) := by
  by_cases h : c
  · simp only [h, if_true]; exact hF
  · simp only [h, if_false]; exact hG
theorem am_tI {v : Option Value} {F : (Nat → List Value → List Value → am_M → am_O) → Int32 → am_O} (h : ∀ x, am_Tail (fun f => F f x)) : am_Tail (fun f => am_isI v (F f)) := by
  unfold am_isI; split
  · exact h _
  · exact am_tc none
theorem am_tL {v : Option Value} {F : (Nat → List Value → List Value → am_M → am_O) → Int64 → am_O} (h : ∀ x, am_Tail (fun f => F f x)) : am_Tail (fun f => am_isL v (F f)) := by
  unfold am_isL; split
  · exact h _
  · exact am_tc none
theorem am_tR {v : Option Value} {F : (Nat → List Value → List Value → am_M → am_O) → Nat → am_O} (h : ∀ x, am_Tail (fun f => F f x)) : am_Tail (fun f => am_isR v (F f)) := by
  unfold am_isR; split
  · exact h _
  · exact am_tc none
theorem am_tp2 {st : List Value} {F : (Nat → List Value → List Value → am_M → am_O) → Int32 → Int32 → List Value → am_O} (h : ∀ x y r, am_Tail (fun f => F f x y r)) : am_Tail (fun f => am_p2 st (F f)) := by
  unfold am_p2; split
  · exact h _ _ _
  · exact am_tc none
theorem am_tp2L {st : List Value} {F : (Nat → List Value → List Value → am_M → am_O) → Int64 → Int64 → List Value → am_O} (h : ∀ x y r, am_Tail (fun f => F f x y r)) : am_Tail (fun f => am_p2L st (F f)) := by
  unfold am_p2L; split
  · exact h _ _ _
  · exact am_tc none
theorem am_tp1 {st : List Value} {F : (Nat → List Value → List Value → am_M → am_O) → Int32 → List Value → am_O} (h : ∀ x r, am_Tail (fun f => F f x r)) : am_Tail (fun f => am_p1 st (F f)) := by
  unfold am_p1; split
  · exact h _ _
  · exact am_tc none
theorem am_tp1L {st : List Value} {F : (Nat → List Value → List Value → am_M → am_O) → Int64 → List Value → am_O} (h : ∀ x r, am_Tail (fun f => F f x r)) : am_Tail (fun f => am_p1L st (F f)) := by
  unfold am_p1L; split
  · exact h _ _
  · exact am_tc none
theorem am_tpR {st : List Value} {F : (Nat → List Value → List Value → am_M → am_O) → Nat → List Value → am_O} (h : ∀ x r, am_Tail (fun f => F f x r)) : am_Tail (fun f => am_pR st (F f)) := by
  unfold am_pR; split
  · exact h _ _
  · exact am_tc none
theorem am_tpIR {st : List Value} {F : (Nat → List Value → List Value → am_M → am_O) → Int32 → Nat → List Value → am_O} (h : ∀ x y r, am_Tail (fun f => F f x y r)) : am_Tail (fun f => am_pIR st (F f)) := by
  unfold am_pIR; split
  · exact h _ _ _
  · exact am_tc none
theorem am_tpVIR {st : List Value} {F : (Nat → List Value → List Value → am_M → am_O) → Value → Int32 → Nat → List Value → am_O} (h : ∀ v x y r, am_Tail (fun f => F f v x y r)) : am_Tail (fun f => am_pVIR st (F f)) := by
  unfold am_pVIR; split
  · exact h _ _ _ _
  · exact am_tc none
theorem am_tpVR {st : List Value} {F : (Nat → List Value → List Value → am_M → am_O) → Value → Nat → List Value → am_O} (h : ∀ v x r, am_Tail (fun f => F f v x r)) : am_Tail (fun f => am_pVR st (F f)) := by
  unfold am_pVR; split
  · exact h _ _ _
  · exact am_tc none
theorem am_tcnd {c : ClassFile.Cond} {x y : Int32} {F G : (Nat → List Value → List Value → am_M → am_O) → am_O} (hF : am_Tail F) (hG : am_Tail G) : am_Tail (fun f => am_cnd c x y (F f) (G f)) := by
  cases c <;> simp only [am_cnd]
  · exact am_tite hF hG
  · exact am_tite hG hF
  · exact am_tite hF hG
  · exact am_tite hF hG
  · exact am_tite hF hG
  · exact am_tite hF hG
theorem am_tsw {x : Int32} {d : Nat} {F : (Nat → List Value → List Value → am_M → am_O) → Nat → am_O} (h : ∀ t, am_Tail (fun f => F f t)) : ∀ l : List (Int32 × Nat), am_Tail (fun f => am_sw x (F f) d l)
  | [] => h d
  | (k, t) :: r => am_tite (h t) (am_tsw h r)
theorem am_tpf {M : am_M} {k j kd : Nat} {v : Value} {F : (Nat → List Value → List Value → am_M → am_O) → am_M → am_O} (h : ∀ M, am_Tail (fun f => F f M)) : am_Tail (fun f => am_pf M k j kd v (F f)) := by
  unfold am_pf
  split <;> split <;> first | exact h _ | exact am_tc none | exact am_tite (h _) (am_tc none)
theorem am_tcall {q : am_O} {F : (Nat → List Value → List Value → am_M → am_O) → Option Value → am_M → am_O} (h : ∀ r M, am_Tail (fun f => F f r M)) : am_Tail (fun f => am_call q (F f)) := by
  unfold am_call; split
  · exact h _ _
  · exact am_tc none
theorem am_tinv (e : am_E) (g : Nat → List Value → am_M → am_O) (pc : Nat) (L st : List Value) (M : am_M) : am_Tail (fun f => am_inv e g f pc L st M) := by
  unfold am_inv
  split
  · exact am_tpR fun _ _ => am_tite (am_tf _ _ _ _) (am_tc none)
  · exact am_tpIR fun _ _ _ => am_tite (am_tf _ _ _ _) (am_tc none)
  · exact am_tpIR fun _ _ _ => am_tite (am_tf _ _ _ _) (am_tc none)
  · split
    · exact am_tite (am_tf _ _ _ _) (am_tc none)
    · exact am_tc none
  · exact am_tite (am_tcall fun _ _ => am_tf _ _ _ _) (am_tc none)
  · split
    · exact am_tite (am_tcall fun _ _ => am_tf _ _ _ _) (am_tc none)
    · exact am_tc none
set_option maxHeartbeats 4000000 in
theorem am_tail (e : am_E) (rk : Nat) (K : Nat → Int64) (g : Nat → List Value → am_M → am_O) (pc : Nat) (L st : List Value) (M : am_M) : am_Tail (fun f => am_step e rk K g f pc L st M) := by
  unfold am_step
  split
  all_goals first
    | exact am_tf _ _ _ _
    | exact am_tI fun _ => am_tf _ _ _ _
    | exact am_tL fun _ => am_tf _ _ _ _
    | exact am_tR fun _ => am_tf _ _ _ _
    | exact am_tp1 fun _ _ => am_tf _ _ _ _
    | exact am_tp1L fun _ _ => am_tf _ _ _ _
    | exact am_tpR fun _ _ => am_tf _ _ _ _
    | exact am_tp2 fun _ _ _ => am_tf _ _ _ _
    | exact am_tp2L fun _ _ _ => am_tf _ _ _ _
    | exact am_tp2 fun _ _ _ => am_tite (am_tc none) (am_tf _ _ _ _)
    | exact am_tp2L fun _ _ _ => am_tite (am_tc none) (am_tf _ _ _ _)
    | exact am_tp1 fun _ _ => am_tp1L fun _ _ => am_tf _ _ _ _
    | exact am_tp1 fun _ _ => am_tcnd (am_tf _ _ _ _) (am_tf _ _ _ _)
    | exact am_tp2 fun _ _ _ => am_tcnd (am_tf _ _ _ _) (am_tf _ _ _ _)
    | exact am_tp1 fun _ _ => am_tsw (fun _ => am_tf _ _ _ _) _
    | exact am_tpR fun _ _ => am_tite (am_tf _ _ _ _) (am_tc none)
    | exact am_tpVR fun _ _ _ => am_tite (am_tpf fun _ => am_tf _ _ _ _) (am_tc none)
    | exact am_tpIR fun _ _ _ => am_tite (am_tite (am_tf _ _ _ _) (am_tc none)) (am_tite (am_tf _ _ _ _) (am_tc none))
    | exact am_tpIR fun _ _ _ => am_tite (am_tite (am_tf _ _ _ _) (am_tc none)) (am_tc none)
    | exact am_tpVIR fun _ _ _ _ => am_tI fun _ => am_tite (am_tite (am_tf _ _ _ _) (am_tc none)) (am_tc none)
    | exact am_tpVIR fun _ _ _ _ => am_tL fun _ => am_tite (am_tite (am_tf _ _ _ _) (am_tc none)) (am_tc none)
    | exact am_tpVIR fun _ _ _ _ => am_tR fun _ => am_tite (am_tite (am_tf _ _ _ _) (am_tc none)) (am_tc none)
    | exact am_tp1 fun _ _ => am_tite (am_tc none) (am_tf _ _ _ _)
    | exact am_tinv _ _ _ _ _ _
    | exact am_tc _
    | (split
       all_goals first
         | exact am_tc _
         | exact am_tite (am_tf _ _ _ _) (am_tc none)
         | exact am_tite (am_tc _) (am_tc none))
noncomputable def am_lim (F : Nat → am_O) : am_O := @dite _ (∃ n r, F n = some r) (Classical.propDecidable _) (fun h => F h.choose) (fun _ => none)
theorem am_lim_of {F : Nat → am_O} (hm : ∀ n r, F n = some r → F (n + 1) = some r) {n : Nat} {r : Option Value × am_M} (h : F n = some r) : am_lim F = some r := by
  have hm2 : ∀ k n r, F n = some r → F (n + k) = some r := by
    intro k
    induction k with
    | zero => intro n r h; exact h
    | succ k ih => intro n r h; exact hm _ _ (ih n r h)
  have hex : ∃ n r, F n = some r := ⟨n, r, h⟩
  unfold am_lim
  rw [dif_pos hex]
  obtain ⟨r2, h2⟩ := hex.choose_spec
  have a := hm2 hex.choose n r h
  have b := hm2 n hex.choose r2 h2
  rw [Nat.add_comm] at b
  rw [h2]
  exact b.symm.trans a
theorem am_of_lim {F : Nat → am_O} {r : Option Value × am_M} (h : am_lim F = some r) : ∃ n, F n = some r := by
  unfold am_lim at h
  by_cases hex : ∃ n r, F n = some r
  · rw [dif_pos hex] at h; exact ⟨_, h⟩
  · rw [dif_neg hex] at h; cases h
theorem am_opt {a b : am_O} (h : ∀ r, a = some r ↔ b = some r) : a = b := by
  cases a with
  | none =>
    cases b with
    | none => rfl
    | some r => exact absurd ((h r).mpr rfl) (by simp)
  | some r => exact ((h r).mp rfl).symm
theorem am_ex_mono (g : Nat → List Value → am_M → am_O) (mi : Nat) : ∀ (n pc : Nat) (L st : List Value) (M : am_M) (r : Option Value × am_M), am_ex g mi n pc L st M = some r → am_ex g mi (n + 1) pc L st M = some r := by
  intro n
  induction n with
  | zero => intro pc L st M r h; cases h
  | succ n ih =>
    intro pc L st M r h
    change am_st g mi (am_ex g mi n) pc L st M = some r at h
    change am_st g mi (am_ex g mi (n + 1)) pc L st M = some r
    rcases am_tail (am_ent mi pc) (am_rk mi) am_K g pc L st M with ⟨c, hc⟩ | ⟨pc', L', st', M', hc⟩
    · have hs : ∀ f, am_st g mi f pc L st M = c := hc
      rw [hs] at h ⊢; exact h
    · have hs : ∀ f, am_st g mi f pc L st M = f pc' L' st' M' := hc
      rw [hs] at h ⊢; exact ih _ _ _ _ _ h
noncomputable def am_run (g : Nat → List Value → am_M → am_O) (mi pc : Nat) (L st : List Value) (M : am_M) : am_O := am_lim fun n => am_ex g mi n pc L st M
theorem am_run_iff {g : Nat → List Value → am_M → am_O} {mi pc : Nat} {L st : List Value} {M : am_M} {r : Option Value × am_M} : am_run g mi pc L st M = some r ↔ ∃ n, am_ex g mi n pc L st M = some r :=
  ⟨fun h => am_of_lim h, fun ⟨_, h⟩ => am_lim_of (F := fun n => am_ex g mi n pc L st M) (fun n r h => am_ex_mono g mi n pc L st M r h) h⟩
theorem am_run_eq (g : Nat → List Value → am_M → am_O) (mi pc : Nat) (L st : List Value) (M : am_M) : am_run g mi pc L st M = am_st g mi (am_run g mi) pc L st M := by
  rcases am_tail (am_ent mi pc) (am_rk mi) am_K g pc L st M with ⟨c, hc⟩ | ⟨pc', L', st', M', hc⟩
  · have hs : ∀ f, am_st g mi f pc L st M = c := hc
    rw [hs]
    apply am_opt
    intro r
    rw [am_run_iff]
    constructor
    · rintro ⟨n, h⟩
      cases n with
      | zero => cases h
      | succ n => exact (hs (am_ex g mi n)).symm.trans h
    · intro h
      exact ⟨1, (hs (am_ex g mi 0)).trans h⟩
  · have hs : ∀ f, am_st g mi f pc L st M = f pc' L' st' M' := hc
    rw [hs]
    apply am_opt
    intro r
    rw [am_run_iff, am_run_iff]
    constructor
    · rintro ⟨n, h⟩
      cases n with
      | zero => cases h
      | succ n => exact ⟨n, (hs (am_ex g mi n)).symm.trans h⟩
    · rintro ⟨n, h⟩
      exact ⟨n + 1, (hs (am_ex g mi n)).trans h⟩
/-- a callee: its locals out of its arguments -/
noncomputable def am_G (ev : Nat → Nat → List Value → List Value → am_M → am_O) : Nat → List Value → am_M → am_O := fun a as M => if (am_spread as).length ≤ am_ml a then ev a 0 (am_pad (am_ml a) (am_spread as)) [] M else none
theorem am_G_eq {ev : Nat → Nat → List Value → List Value → am_M → am_O} {a : Nat} {as : List Value} {M : am_M} (h : (am_spread as).length ≤ am_ml a) : am_G ev a as M = ev a 0 (am_pad (am_ml a) (am_spread as)) [] M := if_pos h
theorem am_G_some {ev : Nat → Nat → List Value → List Value → am_M → am_O} {a : Nat} {as : List Value} {M : am_M} {r : Option Value × am_M} (h : am_G ev a as M = some r) : (am_spread as).length ≤ am_ml a ∧ ev a 0 (am_pad (am_ml a) (am_spread as)) [] M = some r := by
  unfold am_G at h
  by_cases q : (am_spread as).length ≤ am_ml a
  · rw [if_pos q] at h; exact ⟨q, h⟩
  · rw [if_neg q] at h; cases h
/-- a method at depth d: below it, calls go d levels deep -/
noncomputable def am_ev (d : Nat) : Nat → Nat → List Value → List Value → am_M → am_O := Nat.rec (am_run (fun _ _ _ => none)) (fun _ ih => am_run (am_G ih)) d
theorem am_ev_eq (d mi pc : Nat) (L st : List Value) (M : am_M) : am_ev (d + 1) mi pc L st M = am_st (am_G (am_ev d)) mi (am_ev (d + 1) mi) pc L st M := am_run_eq (am_G (am_ev d)) mi pc L st M
/-- some steps on, up to a place where it stops -/
noncomputable def am_ux (stop : Nat → Bool) (g : Nat → List Value → am_M → am_O) (mi : Nat) (f : Nat → List Value → List Value → am_M → am_O) (n : Nat) : Nat → List Value → List Value → am_M → am_O := Nat.rec f (fun _ ih pc L st M => cond (stop pc) (f pc L st M) (am_st g mi ih pc L st M)) n
theorem am_ux_eq (stop : Nat → Bool) (d mi : Nat) : ∀ (n pc : Nat) (L st : List Value) (M : am_M), am_ux stop (am_G (am_ev d)) mi (am_ev (d + 1) mi) n pc L st M = am_ev (d + 1) mi pc L st M := by
  intro n
  induction n with
  | zero => intro pc L st M; rfl
  | succ n ih =>
    intro pc L st M
    change cond (stop pc) (am_ev (d + 1) mi pc L st M) (am_st (am_G (am_ev d)) mi (am_ux stop (am_G (am_ev d)) mi (am_ev (d + 1) mi) n) pc L st M) = _
    cases stop pc with
    | true => rfl
    | false =>
      have e : am_ux stop (am_G (am_ev d)) mi (am_ev (d + 1) mi) n = am_ev (d + 1) mi := by
        funext a b c e; exact ih a b c e
      rw [e]
      exact (am_ev_eq d mi pc L st M).symm
theorem am_blk (stop : Nat → Bool) (n d mi pc : Nat) (L st : List Value) (M : am_M) : am_ev (d + 1) mi pc L st M = am_st (am_G (am_ev d)) mi (am_ux stop (am_G (am_ev d)) mi (am_ev (d + 1) mi) n) pc L st M := by
  have e : am_ux stop (am_G (am_ev d)) mi (am_ev (d + 1) mi) n = am_ev (d + 1) mi := by
    funext a b c e; exact am_ux_eq stop d mi n a b c e
  rw [e]
  exact am_ev_eq d mi pc L st M
theorem am_ginv {e : am_E} {g g' : Nat → List Value → am_M → am_O} {f : Nat → List Value → List Value → am_M → am_O} {pc : Nat} {L st : List Value} {M : am_M} {r : Option Value × am_M} (hg : ∀ a as M q, g a as M = some q → g' a as M = some q) (h : am_inv e g f pc L st M = some r) : am_inv e g' f pc L st M = some r := by
  have hc : ∀ (a : Nat) (as : List Value) (M : am_M) (k : Option Value → am_M → am_O), am_call (g a as M) k = some r → am_call (g' a as M) k = some r := by
    intro a as M k h
    cases hq : g a as M with
    | none => rw [hq] at h; cases h
    | some q => rw [hq] at h; rw [hg _ _ _ _ hq]; exact h
  unfold am_inv at h ⊢
  split at h
  · exact h
  · exact h
  · exact h
  · exact h
  · split at h
    · rename_i h1; rw [if_pos h1]; exact hc _ _ _ _ h
    · cases h
  · split at h
    · split at h
      · rename_i h1; rw [if_pos h1]; exact hc _ _ _ _ h
      · cases h
    · cases h
theorem am_gstep {e : am_E} {rk : Nat} {K : Nat → Int64} {g g' : Nat → List Value → am_M → am_O} {f : Nat → List Value → List Value → am_M → am_O} {pc : Nat} {L st : List Value} {M : am_M} {r : Option Value × am_M} (hg : ∀ a as M q, g a as M = some q → g' a as M = some q) (h : am_step e rk K g f pc L st M = some r) : am_step e rk K g' f pc L st M = some r := by
  unfold am_step at h ⊢
  split at h <;> first | exact h | exact am_ginv hg h
theorem am_gex {g g' : Nat → List Value → am_M → am_O} (hg : ∀ a as M q, g a as M = some q → g' a as M = some q) (mi : Nat) : ∀ (n pc : Nat) (L st : List Value) (M : am_M) (r : Option Value × am_M), am_ex g mi n pc L st M = some r → am_ex g' mi n pc L st M = some r := by
  intro n
  induction n with
  | zero => intro pc L st M r h; cases h
  | succ n ih =>
    intro pc L st M r h
    change am_st g mi (am_ex g mi n) pc L st M = some r at h
    change am_st g' mi (am_ex g' mi n) pc L st M = some r
    have h2 : am_st g mi (am_ex g' mi n) pc L st M = some r := by
      rcases am_tail (am_ent mi pc) (am_rk mi) am_K g pc L st M with ⟨c, hc⟩ | ⟨pc', L', st', M', hc⟩
      · have hs : ∀ f, am_st g mi f pc L st M = c := hc
        rw [hs] at h ⊢; exact h
      · have hs : ∀ f, am_st g mi f pc L st M = f pc' L' st' M' := hc
        rw [hs] at h ⊢; exact ih _ _ _ _ _ h
    exact am_gstep hg h2
theorem am_ev_up : ∀ (d mi pc : Nat) (L st : List Value) (M : am_M) (r : Option Value × am_M), am_ev d mi pc L st M = some r → am_ev (d + 1) mi pc L st M = some r := by
  intro d
  induction d with
  | zero =>
    intro mi pc L st M r h
    obtain ⟨n, hn⟩ := am_run_iff.mp h
    exact am_run_iff.mpr ⟨n, am_gex (fun _ _ _ _ h => by cases h) mi n pc L st M r hn⟩
  | succ d ih =>
    intro mi pc L st M r h
    obtain ⟨n, hn⟩ := am_run_iff.mp h
    exact am_run_iff.mpr ⟨n, am_gex (fun a as M q h => by
      obtain ⟨h1, h2⟩ := am_G_some h
      rw [am_G_eq h1]
      exact ih a 0 _ [] M q h2) mi n pc L st M r hn⟩
theorem am_ev_le {d d' mi pc : Nat} {L st : List Value} {M : am_M} {r : Option Value × am_M} (hd : d ≤ d') (h : am_ev d mi pc L st M = some r) : am_ev d' mi pc L st M = some r := by
  obtain ⟨k, rfl⟩ := Nat.le.dest hd
  clear hd
  induction k with
  | zero => exact h
  | succ k ih => exact am_ev_up _ _ _ _ _ _ _ ih
