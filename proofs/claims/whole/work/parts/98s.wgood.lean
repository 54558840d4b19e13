/-! WORKS: the text is good: the floor begins anew -/
theorem cc_c {α : Type} {c : Bool} {a a' b b' : α} (h1 : c = true → a = a') (h2 : c = false → b = b') : cond c a b = cond c a' b' := by
  cases c
  · exact h2 rfl
  · exact h1 rfl
theorem tc_Re (x : Bool) {k j : Nat} (h1 : ¬ (k = 1 ∧ j = 9)) (h2 : ¬ (k = 41 ∧ j = 0)) : tc_R x k j = tc_R (!x) k j := by
  unfold tc_R
  repeat' (first | rfl | (exact absurd ⟨Nat.eq_of_beq_eq_true ‹Nat.beq k 1 = true›, Nat.eq_of_beq_eq_true ‹Nat.beq j 9 = true›⟩ h1) | (exact absurd ⟨Nat.eq_of_beq_eq_true ‹Nat.beq k 41 = true›, Nat.eq_of_beq_eq_true ‹Nat.beq j 0 = true›⟩ h2) | (refine cc_c ?_ ?_ <;> intro _))
theorem tc_Rn (x : Bool) : am_u2 (am_u2 (tc_R x) 1 9 (some (tc_P x))) 41 0 (some (tc_P (!x))) = tc_R (!x) := by
  funext k j
  by_cases z2 : k = 41 ∧ j = 0
  · obtain ⟨rfl, rfl⟩ := z2
    rw [u2_s]
    cases x <;> rfl
  · rw [show am_u2 (am_u2 (tc_R x) 1 9 (some (tc_P x))) 41 0 (some (tc_P (!x))) k j = am_u2 (tc_R x) 1 9 (some (tc_P x)) k j from if_neg z2]
    by_cases z1 : k = 1 ∧ j = 9
    · obtain ⟨rfl, rfl⟩ := z1
      rw [u2_s]
      cases x <;> rfl
    · rw [show am_u2 (tc_R x) 1 9 (some (tc_P x)) k j = tc_R x k j from if_neg z1]
      exact tc_Re x z1 z2
