/-! the model's next size -/
section RTD
variable {x : Bool} {C M : tI} {J Jc : tJ}
def scJ (g : Nat → Nat → Nat) (A S b j : Nat) (v w : Int32) : Prop := (acj g A S b j = none ∧ v = -1) ∨ ∃ a t, acj g A S b j = some (a :: t) ∧ (a < 6 ∧ bsr g A (S ||| 2 ^ a) a = some t) ∧ v = nI a ∧ w = nI (cst' g b (a :: t)) ∧ cst' g b (a :: t) ≤ 700
theorem Rl.nbM (h : Rl x C M J) {A S b : Nat} (sS : sb S A) (lA : A < 64) (hA : ∀ i, A.testBit i = true → i < Int32.toNatClampNeg (M 11 (xb x))) (hb : b = 6 ∨ b < Int32.toNatClampNeg (M 11 (xb x))) (ne : S ≠ A) (tab : scT (gM M x) M A S) (d : Nat) : ∃ a t, a < 6 ∧ A.testBit a = true ∧ S.testBit a = false ∧ bsr (gM M x) A S b = some (a :: t) ∧ bsr (gM M x) A (S ||| 2 ^ a) a = some t ∧ am_G (am_ev (d + 3)) 264 [.ref 0, .int (nI A), .int (nI S), .int (enc b)] (M, J, tm_R, tm_S, 77, 21637) = some (some (.int (nI a)), (M, J, tm_R, tm_S, 77, 21637)) := by
  have lS : S < 64 := by have := sb_le sS; omega
  have run : ∀ m j (v w : Int32) (v7 : Value), j + m = 6 → scJ (gM M x) A S b j v w → ∃ (v' w' : Int32), am_ev (d + 3) 264 9 [.ref 0, .int (nI A), .int (nI S), .int (enc b), .int v, .int w, .int (nI j), v7] [] (M, J, tm_R, tm_S, 77, 21637) = some (some (.int v'), (M, J, tm_R, tm_S, 77, 21637)) ∧ scJ (gM M x) A S b 6 v' w' := by
    intro m
    induction m with
    | zero =>
      intro j v w v7 hj i
      obtain rfl : j = 6 := by omega
      exact ⟨v, w, by rw [b264_9, if_pos (show (6 : Int32) ≤ nI 6 from Int32.le_refl _)], i⟩
    | succ m ih =>
      intro j v w v7 hj i
      have xl : A ^^^ S ≤ A := sb_le (sb_x sS)
      have st := b264_9 (d + 2) M J (nI A) (nI S) (enc b) v w (nI j) v7
      rw [if_neg (show ¬ (6 : Int32) ≤ nI j from nI_ge (b := 6) (by omega) (by omega)), nI_cmp sS] at st
      by_cases q : (A.testBit j && !S.testBit j) = true
      · have q2 := q
        rw [Bool.and_eq_true, Bool.not_eq_true'] at q2
        have jN := hA j q2.1
        obtain ⟨t, t1, t2, t3⟩ := tab j (by omega) q2.1 q2.2
        obtain ⟨g1, g2, g3⟩ := h.gB hb jN
        have ol : S ||| 2 ^ j < 64 := Nat.or_lt_two_pow (n := 6) lS (Nat.pow_lt_pow_right (by omega) (by omega))
        have ix : (6 : Int32) * nI (S ||| 2 ^ j) + nI j = nI (6 * (S ||| 2 ^ j) + j) := nI_ix 6 _ _
        have ci : (nI (6 * (S ||| 2 ^ j) + j)).toNatClampNeg = 6 * (S ||| 2 ^ j) + j := nI_clamp (by omega)
        have ec : cnd (gM M x) A S j = some (j :: t) := by unfold cnd; rw [t1]; rfl
        have cc : cst' (gM M x) b (j :: t) = gM M x b j + cst' (gM M x) j t := rfl
        rw [if_neg (fun w => by rw [bit_r (by omega) (by omega), x_bit sS] at w; rw [w] at q; cases q), h.hbM g1 jN, g2, am_call_s, am_toL, b264_39, nI_pw (by omega), nI_or, ix, if_pos (nI_in (by omega) (by omega))] at st
        simp only [ci, nI_1] at st
        rw [t2, nI_add, ← cc] at st
        have as : acj (gM M x) A S b (j + 1) = cmb (cst' (gM M x) b) (acj (gM M x) A S b j) (some (j :: t)) := by rw [acj_s, if_pos q, ec]
        rcases i with ⟨i1, i2⟩ | ⟨a, u, i1, i0, i2, i4, i3⟩
        · rw [if_pos i2] at st
          obtain ⟨v', w', y1, y2⟩ := ih (j + 1) _ _ _ (by omega) (Or.inr ⟨j, t, by rw [as, i1]; rfl, ⟨by omega, t1⟩, rfl, rfl, by omega⟩)
          exact ⟨v', w', st.trans y1, y2⟩
        · have i5 := i0.1
          rw [i2, i4, if_neg (nI_ne (by omega))] at st
          rw [i2, i4]
          by_cases z : cst' (gM M x) b (j :: t) < cst' (gM M x) b (a :: u)
          · rw [if_pos (nI_lt z (by omega))] at st
            obtain ⟨v', w', y1, y2⟩ := ih (j + 1) _ _ _ (by omega) (Or.inr ⟨j, t, by rw [as, i1, cmb_2, if_pos z], ⟨by omega, t1⟩, rfl, rfl, by omega⟩)
            exact ⟨v', w', st.trans y1, y2⟩
          · rw [if_neg (nI_nlt (by omega) (by omega))] at st
            obtain ⟨v', w', y1, y2⟩ := ih (j + 1) _ _ _ (by omega) (Or.inr ⟨a, u, by rw [as, i1, cmb_2, if_neg z], i0, rfl, rfl, i3⟩)
            exact ⟨v', w', st.trans y1, y2⟩
      · rw [if_pos ((bit_r (by omega) (by omega)).mpr (by rw [x_bit sS]; exact Bool.eq_false_iff.mpr q)), nI_1] at st
        have as : acj (gM M x) A S b (j + 1) = acj (gM M x) A S b j := by rw [acj_s, if_neg q]
        obtain ⟨v', w', y1, y2⟩ := ih (j + 1) v w v7 (by omega) (by unfold scJ; rw [as]; exact i)
        exact ⟨v', w', st.trans y1, y2⟩
  obtain ⟨v', w', y1, y2⟩ := run 6 0 (-1) 0 am_un (by omega) (Or.inl ⟨rfl, rfl⟩)
  obtain ⟨q', hq'⟩ := bsr_some (gM M x) A S b
  have a6 := acj_6 (gM M x) b (rst_ne sS lA ne)
  rcases y2 with ⟨z1, _⟩ | ⟨a, t, z1, z0, z2, _⟩
  · rw [a6, hq'] at z1; cases z1
  · rw [a6] at z1
    have am := rst_mem.mp ((bsr_q z1).2 a (List.mem_cons_self ..))
    exact ⟨a, t, z0.1, am.2.1, am.2.2, z1, z0.2, by rw [b264_0, ← z2]; exact y1⟩
end RTD
