/-! the model's scan over the next sizes -/
section RT9
variable {x : Bool} {C M : tI} {J Jc : tJ}
def scI (g : Nat → Nat → Nat) (A S b j : Nat) (v : Int32) : Prop := (acj g A S b j = none ∧ v = -1) ∨ ∃ q, acj g A S b j = some q ∧ v = nI (cst' g b q) ∧ cst' g b q ≤ 700
def scT (g : Nat → Nat → Nat) (M : tI) (A S : Nat) : Prop := ∀ a, a < 6 → A.testBit a = true → S.testBit a = false → ∃ t, bsr g A (S ||| 2 ^ a) a = some t ∧ M 70 (6 * (S ||| 2 ^ a) + a) = nI (cst' g a t) ∧ cst' g a t ≤ 594
theorem Rl.sc50 (h : Rl x C M J) {A S b : Nat} (sS : sb S A) (lA : A < 64) (hA : ∀ i, A.testBit i = true → i < Int32.toNatClampNeg (M 11 (xb x))) (hb : b = 6 ∨ b < Int32.toNatClampNeg (M 11 (xb x))) (tab : scT (gM M x) M A S) (d : Nat) : ∀ m j (v : Int32) (v6 : Value), j + m = 6 → scI (gM M x) A S b j v → ∃ (v' : Int32) (w6 : Value), am_ev (d + 3) 263 50 [.ref 0, .int (nI A), .int (nI S), .int (enc b), .int v, .int (nI j), v6] [] (M, J, tm_R, tm_S, 77, 21637) = am_ev (d + 3) 263 50 [.ref 0, .int (nI A), .int (nI S), .int (enc b), .int v', .int (nI 6), w6] [] (M, J, tm_R, tm_S, 77, 21637) ∧ scI (gM M x) A S b 6 v' := by
  have lS : S < 64 := by have := sb_le sS; omega
  intro m
  induction m with
  | zero => intro j v v6 hj i; obtain rfl : j = 6 := by omega
            exact ⟨v, v6, rfl, i⟩
  | succ m ih =>
    intro j v v6 hj i
    have xl : A ^^^ S ≤ A := sb_le (sb_x sS)
    have st := b263_50 (d + 2) M J (nI A) (nI S) (enc b) v (nI j) v6
    rw [if_neg (show ¬ (6 : Int32) ≤ nI j from nI_ge (b := 6) (by omega) (by omega)), nI_cmp sS] at st
    by_cases q : (A.testBit j && !S.testBit j) = true
    · have q2 := q
      rw [Bool.and_eq_true, Bool.not_eq_true'] at q2
      have jN := hA j q2.1
      obtain ⟨t, t1, t2, t3⟩ := tab j (by omega) q2.1 q2.2
      obtain ⟨g1, g2, g3⟩ := h.gB hb jN
      have ol : S ||| 2 ^ j < 64 := Nat.or_lt_two_pow (n := 6) lS (Nat.pow_lt_pow_right (by omega) (by omega))
      have ix : (6 : Int32) * nI (S ||| 2 ^ j) + nI j = nI (6 * (S ||| 2 ^ j) + j) := nI_ix 6 _ _
      have ci : (nI (6 * (S ||| 2 ^ j) + j)).toNatClampNeg = 6 * (S ||| 2 ^ j) + j := nI_clamp (by omega)
      have ec : cnd (gM M x) A S j = some (j :: t) := by unfold cnd; rw [t1]; rfl
      have cc : cst' (gM M x) b (j :: t) = gM M x b j + cst' (gM M x) j t := rfl
      rw [if_neg (fun w => by rw [bit_r (by omega) (by omega), x_bit sS] at w; rw [w] at q; cases q), h.hbM g1 jN, g2, am_call_s, am_toL, b263_80, nI_pw (by omega), nI_or, ix, if_pos (nI_in (by omega) (by omega))] at st
      simp only [ci, nI_1] at st
      rw [t2, nI_add, ← cc] at st
      have as : acj (gM M x) A S b (j + 1) = cmb (cst' (gM M x) b) (acj (gM M x) A S b j) (some (j :: t)) := by rw [acj_s, if_pos q, ec]
      rcases i with ⟨i1, i2⟩ | ⟨u, i1, i2, i3⟩
      · rw [if_pos i2] at st
        obtain ⟨v', w6, y1, y2⟩ := ih (j + 1) _ _ (by omega) (Or.inr ⟨j :: t, by rw [as, i1]; rfl, rfl, by omega⟩)
        exact ⟨v', w6, st.trans y1, y2⟩
      · rw [i2, if_neg (nI_ne (by omega))] at st
        by_cases z : cst' (gM M x) b (j :: t) < cst' (gM M x) b u
        · rw [if_neg (nI_ge z (by omega))] at st
          obtain ⟨v', w6, y1, y2⟩ := ih (j + 1) _ _ (by omega) (Or.inr ⟨j :: t, by rw [as, i1, cmb_2, if_pos z], rfl, by omega⟩)
          exact ⟨v', w6, by rw [i2]; exact st.trans y1, y2⟩
        · rw [if_pos (nI_le (by omega) (by omega))] at st
          obtain ⟨v', w6, y1, y2⟩ := ih (j + 1) _ _ (by omega) (Or.inr ⟨u, by rw [as, i1, cmb_2, if_neg z], rfl, i3⟩)
          exact ⟨v', w6, by rw [i2]; exact st.trans y1, y2⟩
    · rw [if_pos ((bit_r (by omega) (by omega)).mpr (by rw [x_bit sS]; exact Bool.eq_false_iff.mpr q)), nI_1] at st
      have as : acj (gM M x) A S b (j + 1) = acj (gM M x) A S b j := by rw [acj_s, if_neg q]
      obtain ⟨v', w6, y1, y2⟩ := ih (j + 1) v v6 (by omega) (by unfold scI; rw [as]; exact i)
      exact ⟨v', w6, st.trans y1, y2⟩
end RT9
