/-! the model's table -/
section RTC
variable {x : Bool} {C M : tI} {J Jc : tJ}
theorem Rl.rtM (h : Rl x C M J) {A : Nat} (lA : A < 64) (hA : ∀ i, A.testBit i = true → i < Int32.toNatClampNeg (M 11 (xb x))) (d : Nat) : ∃ D : tI, am_G (am_ev (d + 3)) 263 [.ref 0, .int (nI A)] (M, J, tm_R, tm_S, 77, 21637) = some (none, (D, J, tm_R, tm_S, 77, 21637)) ∧ (∀ a b, a ≠ 70 → D a b = M a b) ∧ abv (gM M x) D A 0 := by
  have run : ∀ S (D : tI) (v3 v4 v5 v6 : Value), S ≤ A → (∀ a b, a ≠ 70 → D a b = M a b) → abv (gM M x) D A S → ∃ D' : tI, am_ev (d + 3) 263 2 [.ref 0, .int (nI A), .int (nI S), v3, v4, v5, v6] [] (D, J, tm_R, tm_S, 77, 21637) = some (none, (D', J, tm_R, tm_S, 77, 21637)) ∧ (∀ a b, a ≠ 70 → D' a b = M a b) ∧ abv (gM M x) D' A 0 := by
    intro S
    induction S with
    | zero =>
      intro D v3 v4 v5 v6 hS fr ab
      exact ⟨D, by rw [b263_2, if_pos (by decide : nI 0 ≤ 0)], fr, ab⟩
    | succ S ih =>
      intro D v3 v4 v5 v6 hS fr ab
      have st := b263_2 (d + 2) D J (nI A) (nI (S + 1)) v3 v4 v5 v6
      have e1 : nI (S + 1) + Int32.ofInt (-1) = nI S := by rw [nI_m1i, nI_pred]
      rw [if_neg (show ¬ nI (S + 1) ≤ 0 from nI_ge (a := 0) (by omega) (by omega)), nI_and, e1] at st
      have le : (S + 1) &&& A ≤ S + 1 := Nat.and_le_left
      by_cases q : sb (S + 1) A
      · rw [if_pos (by rw [sb_and.mp q])] at st
        obtain ⟨D', w4, w5, w6, y1, y2, y3, y4⟩ := h.sc18 q lA hA d 6 0 D v4 v5 v6 (by omega) fr ab (fun a ha => by omega)
        have s2 := b263_18 (d + 2) D' J (nI A) (nI (S + 1)) (nI 6) w4 w5 w6
        rw [if_pos (show (6 : Int32) ≤ nI 6 from Int32.le_refl _), e1, b263_150] at s2
        obtain ⟨E, z1, z2⟩ := ih D' (.int (nI 6)) w4 w5 w6 (by omega) y2 (fun T hT sT a ha hb => by
          by_cases z : T = S + 1
          · subst z; exact y4 a ha hb
          · exact y3 T (by omega) sT a ha hb)
        exact ⟨E, st.trans (y1.trans (s2.trans z1)), z2⟩
      · rw [if_neg (fun w => q (sb_and.mpr (nI_inj (by omega) (by omega) w))), b263_150] at st
        obtain ⟨E, z1, z2⟩ := ih D v3 v4 v5 v6 (by omega) fr (fun T hT sT a ha hb => by
          by_cases z : T = S + 1
          · subst z; exact absurd sT q
          · exact ab T (by omega) sT a ha hb)
        exact ⟨E, st.trans z1, z2⟩
  obtain ⟨D, y1, y2⟩ := run A M am_un am_un am_un am_un (Nat.le_refl _) (fun _ _ _ => rfl) (fun T hT sT => by have := sb_le sT; omega)
  exact ⟨D, by rw [b263_0]; exact y1, y2⟩
end RTC
