/-! takeParts, and the first half of builds -/
section PRT
variable {x : Bool} {C M : tI} {J Jc : tJ}
/-- needs of a size by parts -/
def nN (C : tI) (x : Bool) (s q : Nat) : Nat := Int32.toNatClampNeg (C (tc_P x + 15 + s) q)
def lQ (M : tI) (l : Nat) : Nat := Int32.toNatClampNeg (M 51 l)
def lF (M : tI) (x : Bool) (l : Nat) : Prop := fitP M x (Int32.toNatClampNeg (M 52 l))
def lL (M : tI) (l : Nat) : Nat := Int32.toNatClampNeg (M 53 l)
def lV (M : tI) (l : Nat) : Int32 := (1 : Int32) <<< (M 52 l &&& 31)
noncomputable def lT (C M : tI) (x : Bool) (s l : Nat) : Nat := tT (nN C x s) (lQ M) (lF M x) (lL M) l
noncomputable def lG (C M : tI) (x : Bool) (s q l : Nat) : Nat := sg (nN C x s) (lQ M) (lF M x) (lL M) q l
noncomputable def lR (C M : tI) (x : Bool) (s l : Nat) : Nat := lL M l - lT C M x s l
noncomputable def lO (C M : tI) (x : Bool) (s : Nat) (P : Nat → Prop) (n : Nat) : Int32 := orS (nN C x s) (lQ M) (lF M x) (lL M) (lV M) P n
def pC (M : tI) (q l j : Nat) : Prop := lQ M j < q ∨ (lQ M j = q ∧ j < l)
theorem Rl.nB (h : Rl x C M J) {s q : Nat} (hs : s < 6) (hq : q < 8) : C (tc_P x + 15 + s) q = nI (nN C x s q) ∧ nN C x s q ≤ 9 := by
  unfold nN
  rcases h.ndq hs hq with w | ⟨k, hk, _, _, e⟩
  · rw [w.1]; exact ⟨rfl, by decide⟩
  · have g := h.P.2.2.2.2.2.1.2.1 k hk
    rw [e]
    exact ⟨g.2.2.2.2.1.eq (by omega), g.2.2.2.2.1.cl (by omega)⟩
theorem Rl.lR60 (h : Rl x C M J) (s : Nat) {l : Nat} (hl : l < Int32.toNatClampNeg (M 0 70)) : lL M l ≤ 60 ∧ lR C M x s l ≤ 60 ∧ M 53 l = nI (lL M l) ∧ M 51 l = nI (lQ M l) ∧ lQ M l < 8 ∧ lT C M x s l ≤ lL M l := by
  have g := h.H.2.2.1 l hl
  have a := g.2.2.2.2.2.2.2.cl (by omega)
  have b := g.2.2.2.1.cl (by omega)
  unfold lR lL lQ
  exact ⟨a, by omega, g.2.2.2.2.2.2.2.eq (by omega), g.2.2.2.1.eq (by omega), by omega, tT_le _ _ _ _ _⟩
theorem fitP_b {n b : Nat} {P : Nat → Prop} {R : Nat → Nat} : fitP (bM M n P R) x b ↔ fitP M x b := by
  unfold fitP
  simp only [bM_f (M := M) (n := n) (P := P) (R := R) (show 4 ≠ 53 by omega), bM_f (M := M) (n := n) (P := P) (R := R) (show 5 ≠ 53 by omega), bM_f (M := M) (n := n) (P := P) (R := R) (show 0 ≠ 53 by omega), bM_f (M := M) (n := n) (P := P) (R := R) (show 48 ≠ 53 by omega), bM_f (M := M) (n := n) (P := P) (R := R) (show 50 ≠ 53 by omega)]
theorem lG_s (s q l : Nat) : lG C M x s q (l + 1) = lG C M x s q l + cite (lQ M l = q) (lT C M x s l) 0 := sg_e _ _ _ _ _ _
theorem lT_e (s l : Nat) : lT C M x s l = cite (lF M x l) (min (nN C x s (lQ M l) - lG C M x s (lQ M l) l) (lL M l)) 0 := rfl
theorem pC_s {q l : Nat} (eq : lQ M l = q) (j : Nat) : pC M q (l + 1) j ↔ pC M q l j ∨ j = l := by
  unfold pC
  by_cases e : j = l
  · subst e; exact ⟨fun _ => Or.inr rfl, fun _ => Or.inr ⟨eq, by omega⟩⟩
  · exact ⟨fun w => Or.inl (by omega), fun w => by omega⟩
/-- the class's inner loop -/
theorem Rl.tkC (h : Rl x C M J) {s : Nat} (hs : s < 6) {q : Nat} (hq : q < 8) (d : Nat) : ∀ k l, l + k = Int32.toNatClampNeg (M 0 70) → ∀ w, ∃ v4 v5 v6, am_ev (d + 2) 25 33 [.ref 41, .int (nI s), .int (lO C M x s (pC M q l) (Int32.toNatClampNeg (M 0 70))), .int (nI q), .int (nI (nN C x s q - lG C M x s q l)), .int (nI l), w] [] (bC C (Int32.toNatClampNeg (M 0 70)) (pC M q l) (lR C M x s), Jc, (tc_R x), tc_S, 289, 11479) = am_ev (d + 2) 25 4 [.ref 41, .int (nI s), .int (lO C M x s (pC M (q + 1) 0) (Int32.toNatClampNeg (M 0 70))), .int (nI (q + 1)), v4, v5, v6] [] (bC C (Int32.toNatClampNeg (M 0 70)) (pC M (q + 1) 0) (lR C M x s), Jc, (tc_R x), tc_S, 289, 11479) := by
  have n70 := h.nlB.cl (by omega)
  have e70 := h.nlB.eq (by omega)
  obtain ⟨_, n9⟩ := h.nB hs hq
  have c53 : ∀ j, j < Int32.toNatClampNeg (M 0 70) → lT C M x s j = 0 → C (110 + j) 2 = nI (lR C M x s j) := by
    intro j hj ht
    obtain ⟨_, _, e, _⟩ := h.lR60 s hj
    rw [(h.H.2.2.1 j hj).2.2.1, e]
    unfold lR; rw [ht]; rfl
  -- states that are alike
  have alike : ∀ P Q : Nat → Prop, (∀ j, j < Int32.toNatClampNeg (M 0 70) → (P j ↔ Q j) ∨ lT C M x s j = 0) → bC C (Int32.toNatClampNeg (M 0 70)) P (lR C M x s) = bC C (Int32.toNatClampNeg (M 0 70)) Q (lR C M x s) ∧ lO C M x s P (Int32.toNatClampNeg (M 0 70)) = lO C M x s Q (Int32.toNatClampNeg (M 0 70)) := by
    intro P Q hh
    refine ⟨bC_c (fun j hj => (hh j hj).imp id (c53 j hj)), orS_c _ _ _ _ _ _ (fun j hj ht => ?_)⟩
    rcases hh j hj with w | w
    · exact w
    · have : tT (nN C x s) (lQ M) (lF M x) (lL M) j = 0 := w
      omega
  intro k
  induction k with
  | zero =>
    intro l hl w
    obtain rfl : l = Int32.toNatClampNeg (M 0 70) := by omega
    obtain ⟨a1, a2⟩ := alike (pC M q (Int32.toNatClampNeg (M 0 70))) (pC M (q + 1) 0) (fun j hj => Or.inl (by unfold pC; omega))
    rw [b25_33, bC_f (a := 41) (b := 7) (by omega), h.nl, if_pos (by rw [← e70]; exact Int32.le_refl _), a1, a2, nI_1]
    exact ⟨_, _, _, rfl⟩
  | succ k ih =>
    intro l hl w
    have hl' : l < Int32.toNatClampNeg (M 0 70) := by omega
    obtain ⟨l60, r60, e53, e51, q8, tl⟩ := h.lR60 s hl'
    have g := h.H.2.2.1 l hl'
    have i40 : am_in (nI l) 40 := nI_in (by omega) (by omega)
    have cl : (nI l).toNatClampNeg = l := nI_clamp (by omega)
    have hk := tl_k (k := l) (by omega)
    have skip : lT C M x s l = 0 ∨ lQ M l ≠ q → lG C M x s q (l + 1) = lG C M x s q l ∧ bC C (Int32.toNatClampNeg (M 0 70)) (pC M q l) (lR C M x s) = bC C (Int32.toNatClampNeg (M 0 70)) (pC M q (l + 1)) (lR C M x s) ∧ lO C M x s (pC M q l) (Int32.toNatClampNeg (M 0 70)) = lO C M x s (pC M q (l + 1)) (Int32.toNatClampNeg (M 0 70)) := by
      intro z
      refine ⟨?_, alike _ _ (fun j hj => ?_)⟩
      · rw [lG_s]
        by_cases e : lQ M l = q
        · rw [cite_p e, z.resolve_right (fun w => w e)]; exact Nat.add_zero _
        · rw [cite_n e]; exact Nat.add_zero _
      · by_cases e : j = l
        · subst e
          rcases z with z | z
          · exact Or.inr z
          · exact Or.inl (by unfold pC; omega)
        · exact Or.inl (by unfold pC; omega)
    have hR := h.lots (n := Int32.toNatClampNeg (M 0 70)) rfl (pC M q l) (R := lR C M x s) (fun j hj => (h.lR60 s hj).2.1)
    have gl : ¬ M 0 70 ≤ nI l := by rw [e70]; exact nI_ge hl' (by omega)
    rw [b25_33, bC_f (a := 41) (b := 7) (by omega), h.nl, if_neg gl]
    by_cases lk : nN C x s q - lG C M x s q l = 0
    · obtain ⟨a1, a2⟩ := alike (pC M q l) (pC M (q + 1) 0) (fun j hj => by
        by_cases e : lQ M j = q ∧ l ≤ j
        · refine Or.inr (tT_0 _ _ _ _ (l := l) ?_ e.2)
          have e1 := e.1
          rw [e1]
          have : sg (nN C x s) (lQ M) (lF M x) (lL M) q l = lG C M x s q l := rfl
          omega
        · exact Or.inl (by unfold pC; omega))
      rw [lk, if_pos (by decide : nI 0 ≤ 0), a1, a2, nI_1]
      exact ⟨_, _, _, rfl⟩
    rw [if_neg (nI_nle (by omega) (by omega)), if_pos i40]
    simp only [cl]
    rw [if_pos hk, bC_f (a := 110 + l) (b := 0) (by omega), g.1, e51]
    by_cases eq : lQ M l = q
    rotate_left
    · obtain ⟨s1, s2, s3⟩ := skip (Or.inr eq)
      rw [if_neg (fun w => eq (nI_inj (by omega) (by omega) w)), nI_1, s2, s3, ← s1]
      exact ih (l + 1) (by omega) w
    have npl : ¬ pC M q l l := by unfold pC; omega
    rw [if_pos (by rw [eq]), if_pos i40, if_pos hk, bC_n npl, g.2.2.1, e53]
    by_cases z0 : lL M l = 0
    · obtain ⟨s1, s2, s3⟩ := skip (Or.inl (by omega))
      rw [z0, if_pos (by decide : nI 0 ≤ 0), nI_1, s2, s3, ← s1]
      exact ih (l + 1) (by omega) w
    have eb := g.2.2.2.2.2.1.eq (by omega)
    have hb := g.2.2.2.2.2.2.1
    have fit := hR.fitCv (Jc := Jc) (v := M 52 l) eb (by rw [bM_f (by omega)]; exact hb) d
    rw [if_neg (nI_nle (by omega) (by omega)), if_pos i40, if_pos hk, bC_f (a := 110 + l) (b := 1) (by omega), g.2.1, fit, am_call_s, am_toL, b25_88, am_bif]
    by_cases ff : lF M x l
    rotate_left
    · have ff' : ¬ fitP (bM M (Int32.toNatClampNeg (M 0 70)) (pC M q l) (lR C M x s)) x (Int32.toNatClampNeg (M 52 l)) := fun w => ff (fitP_b.mp w)
      obtain ⟨s1, s2, s3⟩ := skip (Or.inl (by rw [lT_e, cite_n ff]))
      rw [if_neg ff', nI_1, s2, s3, ← s1]
      exact ih (l + 1) (by omega) w
    have ff' : fitP (bM M (Int32.toNatClampNeg (M 0 70)) (pC M q l) (lR C M x s)) x (Int32.toNatClampNeg (M 52 l)) := fitP_b.mpr ff
    have et : lT C M x s l = min (nN C x s q - lG C M x s q l) (lL M l) := by rw [lT_e, cite_p ff, eq]
    have tp : 0 < lT C M x s l := by rw [et]; omega
    have mn : am_G (am_ev (d + 1)) 290 [.int (nI (nN C x s q - lG C M x s q l)), .int (nI (lL M l))] (bC C (Int32.toNatClampNeg (M 0 70)) (pC M q l) (lR C M x s), Jc, (tc_R x), tc_S, 289, 11479) = some (some (.int (nI (lT C M x s l))), (bC C (Int32.toNatClampNeg (M 0 70)) (pC M q l) (lR C M x s), Jc, (tc_R x), tc_S, 289, 11479)) := by
      rw [b290_0, et]
      by_cases c : lL M l < nN C x s q - lG C M x s q l
      · rw [if_pos (nI_lt c (by omega)), Nat.min_eq_right (by omega)]
      · rw [if_neg (nI_nlt (by omega) (by omega)), Nat.min_eq_left (by omega)]
    rw [if_pos ff', if_pos i40]
    simp only [cl]
    rw [if_pos hk, bC_n npl, g.2.2.1, e53, mn, am_call_s, am_toL, b25_106, if_pos i40]
    simp only [cl]
    rw [if_pos hk, if_pos hk, if_pos i40, if_pos hk, bC_n npl, g.2.2.1, e53, u2_p (by omega), bC_f (a := 110 + l) (b := 1) (by omega), g.2.1, nI_sub (by omega) tl, nI_sub (by omega) (by rw [et]; omega), nI_1]
    rw [bC_s hl' (show nI (lL M l - lT C M x s l) = nI (lR C M x s l) from rfl) (Q := pC M q (l + 1)) (pC_s eq)]
    have eo : lO C M x s (pC M q (l + 1)) (Int32.toNatClampNeg (M 0 70)) = lO C M x s (pC M q l) (Int32.toNatClampNeg (M 0 70)) ||| (1 : Int32) <<< (M 52 l &&& 31) := orS_a _ _ _ _ _ npl (pC_s eq) tp _ hl'
    have eg : nN C x s q - lG C M x s q l - lT C M x s l = nN C x s q - lG C M x s q (l + 1) := by rw [lG_s, cite_p eq]; omega
    rw [← eo, eg]
    exact ih (l + 1) (by omega) _
theorem Rl.tpC (h : Rl x C M J) {s : Nat} (hs : s < 6) (d : Nat) : am_G (am_ev (d + 2)) 25 [.ref 41, .int (nI s)] (C, Jc, (tc_R x), tc_S, 289, 11479) = some (some (.int (lO C M x s (fun _ => True) (Int32.toNatClampNeg (M 0 70)))), (bC C (Int32.toNatClampNeg (M 0 70)) (fun _ => True) (lR C M x s), Jc, (tc_R x), tc_S, 289, 11479)) := by
  have hp4 := tc_P4 x
  have b6 := h.n6.2.cl (by omega)
  have e6 := h.n6.2.eq (by omega)
  have n70 := h.nlB.cl (by omega)
  have i6 : am_in (nI s) 6 := nI_in hs (by omega)
  have cs : (nI s).toNatClampNeg = s := nI_clamp (by omega)
  have run : ∀ k q, q + k = Int32.toNatClampNeg (M 6 (xb x)) → ∀ v4 v5 v6, am_ev (d + 2) 25 4 [.ref 41, .int (nI s), .int (lO C M x s (pC M q 0) (Int32.toNatClampNeg (M 0 70))), .int (nI q), v4, v5, v6] [] (bC C (Int32.toNatClampNeg (M 0 70)) (pC M q 0) (lR C M x s), Jc, (tc_R x), tc_S, 289, 11479) = some (some (.int (lO C M x s (pC M (Int32.toNatClampNeg (M 6 (xb x))) 0) (Int32.toNatClampNeg (M 0 70)))), (bC C (Int32.toNatClampNeg (M 0 70)) (pC M (Int32.toNatClampNeg (M 6 (xb x))) 0) (lR C M x s), Jc, (tc_R x), tc_S, 289, 11479)) := by
    intro k
    induction k with
    | zero =>
      intro q hq v4 v5 v6
      obtain rfl : q = Int32.toNatClampNeg (M 6 (xb x)) := by omega
      rw [b25_4, if_pos i19, c18, bC_f (a := tc_P x + 1) (b := 1) (by omega), h.n6.1, if_pos (by rw [← e6]; exact Int32.le_refl _)]
    | succ k ih =>
      intro q hq v4 v5 v6
      obtain ⟨en, n9⟩ := h.nB hs (q := q) (by omega)
      obtain ⟨w4, w5, w6, e⟩ := h.tkC (Jc := Jc) hs (q := q) (by omega) d (Int32.toNatClampNeg (M 0 70)) 0 (by omega) v6
      have z : lG C M x s q 0 = 0 := rfl
      rw [z, Nat.sub_zero] at e
      rw [b25_4, if_pos i19, c18, bC_f (a := tc_P x + 1) (b := 1) (by omega), h.n6.1, if_neg (show ¬ M 6 (xb x) ≤ nI q by rw [e6]; exact nI_ge (by omega) (by omega)), if_pos i6]
      simp only [cs]
      (rw [ts_nd x s hs, if_pos ⟨rfl, by omega⟩, if_pos (nI_in (by omega) (by omega))]; (try simp (disch := omega) only [nI_clamp]); rw [bC_f (a := tc_P x + 15 + s) (b := q) (by omega), en])
      refine Eq.trans ?_ (ih (q + 1) (by omega) w4 w5 w6)
      exact e
  have z0 : bC C (Int32.toNatClampNeg (M 0 70)) (pC M 0 0) (lR C M x s) = C := by
    funext a b
    unfold bC
    rw [cite_n (fun w => by have := w.2.2.2; unfold pC at this; omega)]
  have z1 : lO C M x s (pC M 0 0) (Int32.toNatClampNeg (M 0 70)) = 0 := by
    have : ∀ n, lO C M x s (pC M 0 0) n = 0 := by
      intro n
      induction n with
      | zero => rfl
      | succ n ih =>
        have : lO C M x s (pC M 0 0) (n + 1) = lO C M x s (pC M 0 0) n ||| cite (pC M 0 0 n ∧ 0 < lT C M x s n) (lV M n) 0 := rfl
        rw [this, ih, cite_n (fun w => by have := w.1; unfold pC at this; omega)]; rfl
    exact this _
  have f := run (Int32.toNatClampNeg (M 6 (xb x))) 0 (by omega) am_un am_un am_un
  rw [z0, z1] at f
  rw [b25_0]
  refine f.trans ?_
  have al : ∀ j, j < Int32.toNatClampNeg (M 0 70) → (pC M (Int32.toNatClampNeg (M 6 (xb x))) 0 j ↔ True) := by
    intro j hj
    have := (h.H.2.2.1 j hj).2.2.2.2.1
    have e : lQ M j = Int32.toNatClampNeg (M 51 j) := rfl
    unfold pC
    rw [e]
    exact ⟨fun _ => trivial, fun _ => Or.inl this⟩
  rw [bC_c (Q := fun _ => True) (fun j hj => Or.inl (al j hj))]
  have : lO C M x s (pC M (Int32.toNatClampNeg (M 6 (xb x))) 0) (Int32.toNatClampNeg (M 0 70)) = lO C M x s (fun _ => True) (Int32.toNatClampNeg (M 0 70)) := orS_c _ _ _ _ _ _ (fun j hj _ => al j hj)
  rw [this]
end PRT
