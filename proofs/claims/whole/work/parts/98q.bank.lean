/-! THE BANKS: what is read into one does not touch the other -/
section BNK
variable {x y : Bool} {C M C' M' : tI} {J J' Jc : tJ}
theorem tc_PP (x : Bool) : (tc_P x = 4 ∧ tc_P (!x) = 42) ∨ (tc_P x = 42 ∧ tc_P (!x) = 4) := by cases x <;> simp [tc_P]
/-- a bank's places are the same -/
def bkM (y : Bool) (M M' : tI) : Prop := ∀ a k, 2 ≤ a → a ≤ 38 → k < sdd a → M' a (sdd a * xb y + k) = M a (sdd a * xb y + k)
theorem bkM.c (h : bkM y M M') {a : Nat} (h1 : 2 ≤ a) (h2 : a ≤ 38) (h3 : sdd a = 1) : M' a (xb y) = M a (xb y) := by
  have := h a 0 h1 h2 (by omega)
  rw [h3, Nat.one_mul, Nat.add_zero] at this
  exact this
theorem rl_P.bk (h : rl_P y C M J) (hC : ∀ a b, tc_P y ≤ a → a ≤ tc_P y + 36 → C' a b = C a b) (hM : bkM y M M') (hJ : ∀ q k, q < 5 → k < kx q → J' (jk q) (kx q * xb y + k) = J (jk q) (kx q * xb y + k)) : rl_P y C' M' J' := by
  obtain ⟨hc, hn, hm, hp, hs, hd, hg, ho, hz, hl⟩ := h
  have b2 := hc.1.2.cl (by omega)
  have b6 := hc.2.1.2.cl (by omega)
  have b11 := hc.2.2.1.2.cl (by omega)
  have b20 := hc.2.2.2.1.2.cl (by omega)
  have b22 := hc.2.2.2.2.1.2.cl (by omega)
  have b26 := hc.2.2.2.2.2.1.2.cl (by omega)
  have b34 := hc.2.2.2.2.2.2.1.2.cl (by omega)
  have b14 := hc.2.2.2.2.2.2.2.1.2.cl (by omega)
  have m2 := hM.c (a := 2) (by omega) (by omega) rfl
  have m6 := hM.c (a := 6) (by omega) (by omega) rfl
  have m11 := hM.c (a := 11) (by omega) (by omega) rfl
  have m20 := hM.c (a := 20) (by omega) (by omega) rfl
  have m22 := hM.c (a := 22) (by omega) (by omega) rfl
  have m26 := hM.c (a := 26) (by omega) (by omega) rfl
  have m34 := hM.c (a := 34) (by omega) (by omega) rfl
  have m14 := hM.c (a := 14) (by omega) (by omega) rfl
  have m18 := hM.c (a := 18) (by omega) (by omega) rfl
  have p6 : ∀ a k, a = 4 ∨ a = 5 ∨ a = 13 → k < 6 → M' a (6 * xb y + k) = M a (6 * xb y + k) := fun a k ha hk => by
    rcases ha with rfl | rfl | rfl
    · exact hM 4 k (by omega) (by omega) hk
    · exact hM 5 k (by omega) (by omega) hk
    · exact hM 13 k (by omega) (by omega) hk
  have p8 : ∀ a k, a = 8 ∨ a = 9 ∨ a = 10 ∨ a = 24 ∨ a = 25 ∨ a = 27 ∨ a = 28 ∨ a = 29 ∨ a = 35 ∨ a = 36 → k < 8 → M' a (8 * xb y + k) = M a (8 * xb y + k) := fun a k ha hk => by
    have e : sdd a = 8 := by rcases ha with rfl | rfl | rfl | rfl | rfl | rfl | rfl | rfl | rfl | rfl <;> rfl
    have := hM a k (by omega) (by omega) (by omega)
    rw [e] at this; exact this
  have p24 : ∀ a k, 15 ≤ a → a ≤ 17 → k < 24 → M' a (24 * xb y + k) = M a (24 * xb y + k) := fun a k ha ha2 hk => by
    have e : sdd a = 24 := by rcases (by omega : a = 15 ∨ a = 16 ∨ a = 17) with rfl | rfl | rfl <;> rfl
    have := hM a k (by omega) (by omega) (by omega)
    rw [e] at this; exact this
  refine ⟨?_, ?_, ?_, ?_, ?_, ?_, ?_, ?_, ?_, ?_⟩
  · unfold rl_Pc at hc ⊢
    rw [m2, m6, m11, m20, m22, m26, m34, m14, m18]
    simp only [fun b => hC (tc_P y + 1) b (by omega) (by omega)]
    exact hc
  · unfold rl_Pn at hn ⊢
    rw [m2, m6, m11, m20, m22]
    refine ⟨fun k hk => ?_, fun k hk => ?_, fun k hk => ?_, fun k hk => ?_, fun k hk => ?_⟩
    · rw [hC _ _ (by omega) (by omega), show J' 3 (6 * xb y + k) = J 3 (6 * xb y + k) from hJ 0 k (by omega) (show k < 6 by omega)]; exact hn.1 k hk
    · rw [hC _ _ (by omega) (by omega), show J' 7 (8 * xb y + k) = J 7 (8 * xb y + k) from hJ 1 k (by omega) (show k < 8 by omega)]; exact hn.2.1 k hk
    · rw [hC _ _ (by omega) (by omega), show J' 12 (6 * xb y + k) = J 12 (6 * xb y + k) from hJ 2 k (by omega) (show k < 6 by omega)]; exact hn.2.2.1 k hk
    · rw [hC _ _ (by omega) (by omega), show J' 21 (4 * xb y + k) = J 21 (4 * xb y + k) from hJ 3 k (by omega) (show k < 4 by omega)]; exact hn.2.2.2.1 k hk
    · rw [hC _ _ (by omega) (by omega), show J' 23 (8 * xb y + k) = J 23 (8 * xb y + k) from hJ 4 k (by omega) (show k < 8 by omega)]; exact hn.2.2.2.2 k hk
  · intro k hk
    rw [m2] at hk
    rw [hC _ _ (by omega) (by omega), hC _ _ (by omega) (by omega), p6 4 k (by omega) (by omega), p6 5 k (by omega) (by omega)]; exact hm k hk
  · intro k hk
    rw [m6] at hk
    rw [hC _ _ (by omega) (by omega), hC _ _ (by omega) (by omega), hC _ _ (by omega) (by omega), p8 8 k (by omega) (by omega), p8 9 k (by omega) (by omega), p8 10 k (by omega) (by omega), m2]; exact hp k hk
  · intro k hk
    rw [m11] at hk
    rw [hC _ _ (by omega) (by omega), p6 13 k (by omega) (by omega)]; exact hs k hk
  · refine ⟨fun s q hs' hq => ?_, fun k hk => ?_, fun k l hk hl' => ?_⟩
    · rw [hC _ _ (by omega) (by omega), m14, ndS_eq (M := M) _ (fun k hk => ⟨p24 15 k (by omega) (by omega) (by omega), p24 16 k (by omega) (by omega) (by omega), p24 17 k (by omega) (by omega) (by omega)⟩)]; exact hd.1 s q hs' hq
    · rw [m14] at hk
      rw [p24 15 k (by omega) (by omega) (by omega), p24 16 k (by omega) (by omega) (by omega), p24 17 k (by omega) (by omega) (by omega), m11, m6]; exact hd.2.1 k hk
    · rw [m14] at hl'
      rw [p24 15 k (by omega) (by omega) (by omega), p24 17 k (by omega) (by omega) (by omega), p24 15 l (by omega) (by omega) (by omega), p24 17 l (by omega) (by omega) (by omega)]; exact hd.2.2 k l hk hl'
  · have p19 : ∀ a c, a < 6 → c < 6 → M' 19 (6 * (6 * xb y + a) + c) = M 19 (6 * (6 * xb y + a) + c) := fun a c ha hcc => by
      have := hM 19 (6 * a + c) (by omega) (by omega) (show 6 * a + c < 36 by omega)
      have e2 : sdd 19 * xb y + (6 * a + c) = 6 * (6 * xb y + a) + c := by show 36 * xb y + (6 * a + c) = _; omega
      rw [e2] at this; exact this
    unfold rl_Pg at hg ⊢
    rw [m11]
    refine ⟨fun a c ha hcc hh h0 => ?_, fun a c ha hcc hh => ?_, fun a c ha hcc => ?_⟩
    · rw [hC _ _ (by omega) (by omega)]; exact hg.1 a c ha hcc hh h0
    · rw [hC _ _ (by omega) (by omega), p19 a c (by omega) (by omega)]; exact hg.2.1 a c ha hcc hh
    · rw [p19 a c (by omega) (by omega)]; exact hg.2.2 a c ha hcc
  · unfold rl_Po at ho ⊢
    rw [m22, m26, m11]
    refine ⟨fun k hk => ?_, fun k hk => ?_⟩
    · rw [hC _ _ (by omega) (by omega), hC _ _ (by omega) (by omega), p8 24 k (by omega) (by omega), p8 25 k (by omega) (by omega)]; exact ho.1 k hk
    · rw [hC _ _ (by omega) (by omega), hC _ _ (by omega) (by omega), hC _ _ (by omega) (by omega), p8 27 k (by omega) (by omega), p8 28 k (by omega) (by omega), p8 29 k (by omega) (by omega)]; exact ho.2 k hk
  · unfold rl_Pz at hz ⊢
    rw [m6, m11, hM.c (a := 30) (by omega) (by omega) rfl, hM.c (a := 31) (by omega) (by omega) rfl, hM.c (a := 32) (by omega) (by omega) rfl, hM.c (a := 33) (by omega) (by omega) rfl, hC _ 16 (by omega) (by omega), hC _ 17 (by omega) (by omega), hC _ 18 (by omega) (by omega), hC _ 19 (by omega) (by omega)]
    exact hz
  · intro k hk
    rw [m34] at hk
    obtain ⟨A, B, s, f, a1, a2, a3, a4, a5, a6, a7, a8, a9⟩ := hl k hk
    refine ⟨A, B, s, f, ?_, ?_, a3, ?_, ?_, a6, fun i hi => ?_, fun i hi => ?_, a9⟩
    · rw [hC _ _ (by omega) (by omega)]; exact a1
    · rw [hC _ _ (by omega) (by omega)]; exact a2
    · rw [p8 35 k (by omega) (by omega)]; exact a4
    · rw [p8 36 k (by omega) (by omega)]; exact a5
    · rw [hC _ _ (by omega) (by omega)]; exact a7 i hi
    · have e1 : M' 37 (1600 * xb y + (f + i)) = M 37 (1600 * xb y + (f + i)) := hM 37 (f + i) (by omega) (by omega) (show f + i < 1600 by omega)
      have e2 : M' 38 (1600 * xb y + (f + i)) = M 38 (1600 * xb y + (f + i)) := hM 38 (f + i) (by omega) (by omega) (show f + i < 1600 by omega)
      rw [e1, e2]; exact a8 i hi
theorem rl_H.bk (h : rl_H x C M) (n74 : Int32.toNatClampNeg (M 0 74) ≤ 60) (hC : ∀ a b, a = 41 ∨ (80 ≤ a ∧ a ≤ 274) → C' a b = C a b) (hM : bkM x M M') (hM0 : ∀ b, 62 ≤ b → M' 0 b = M 0 b) (hM1 : ∀ a b, 46 ≤ a → M' a b = M a b) : rl_H x C' M' := by
  obtain ⟨h0, hb, hl, ht, hp, hm⟩ := h
  have m2 := hM.c (a := 2) (by omega) (by omega) rfl
  have m6 := hM.c (a := 6) (by omega) (by omega) rfl
  have m11 := hM.c (a := 11) (by omega) (by omega) rfl
  have m20 := hM.c (a := 20) (by omega) (by omega) rfl
  have m22 := hM.c (a := 22) (by omega) (by omega) rfl
  have p13 : ∀ k, k < 6 → M' 13 (6 * xb x + k) = M 13 (6 * xb x + k) := fun k hk => hM 13 k (by omega) (by omega) hk
  have q66 := h0.2.2.2.2.2.2.1.cl (by omega)
  have q70 := h0.2.2.2.2.2.2.2.2.1.cl (by omega)
  refine ⟨?_, ?_, ?_, ?_, ?_, ?_⟩
  · unfold rl_H0 at h0 ⊢
    rw [m11]
    simp only [fun b => hC 41 b (by omega), hM0 65 (by omega), hM0 66 (by omega), hM0 70 (by omega), hM0 74 (by omega), hM0 89 (by omega), hM0 90 (by omega)]
    exact h0
  · intro b hb'
    rw [hM0 66 (by omega)] at hb'
    rw [hC _ _ (by omega), hC _ _ (by omega), hC _ _ (by omega), hM1 48 _ (by omega), hM1 49 _ (by omega), hM1 50 _ (by omega), m2, hM0 65 (by omega)]; exact hb b hb'
  · intro l hl'
    rw [hM0 70 (by omega)] at hl'
    rw [hC _ _ (by omega), hC _ _ (by omega), hC _ _ (by omega), hM1 51 _ (by omega), hM1 52 _ (by omega), hM1 53 _ (by omega), m6, hM0 66 (by omega)]; exact hl l hl'
  · intro t ht'
    rw [hM0 74 (by omega)] at ht'
    have h1 := ht t ht'
    have s5 : Int32.toNatClampNeg (M 54 t) < 6 := by
      have := h1.2.2.2.2.2.2.2.1.cl (by omega)
      omega
    have e54 := hM1 54 t (by omega)
    have e13 : M' 13 (6 * xb x + Int32.toNatClampNeg (M' 54 t)) = M 13 (6 * xb x + Int32.toNatClampNeg (M 54 t)) := by rw [e54]; exact p13 _ s5
    rw [e13, m11]
    simp only [fun b => hC (150 + 2 * t) b (by omega), fun b => hC 82 b (by omega), fun b => hM1 54 b (by omega), fun b => hM1 55 b (by omega), fun b => hM1 56 b (by omega), fun b => hM1 57 b (by omega), fun b => hM1 58 b (by omega), fun b => hM1 59 b (by omega), fun b => hM1 60 b (by omega), fun b => hM1 61 b (by omega), fun b => hM1 62 b (by omega), hM0 65 (by omega)]
    exact h1
  · obtain ⟨u1, u2, u3⟩ := hp
    refine ⟨fun p hp' => ?_, fun p q hpq hq => ?_, fun t ht' => ?_⟩
    · obtain ⟨v1, v2, v3, v4, v5⟩ := u1 p hp'
      rw [hC _ _ (by omega), hC _ _ (by omega), hM1 64 _ (by omega), hM1 65 _ (by omega), m20, m22]
      refine ⟨v1, v2, v3, v4, ?_⟩
      rcases v5 with z | ⟨z1, z2, z3, z4, z5, z6, z7, z8⟩
      · exact Or.inl z
      · refine Or.inr ⟨z1, ?_, ?_, z4, ?_, ?_, ?_, ?_⟩
        · rw [hM0 74 (by omega)]; exact z2
        · rw [hM1 55 _ (by omega)]; exact z3
        · rw [hC _ _ (by omega), hM1 66 _ (by omega)]; exact z5
        · rw [hM1 66 _ (by omega)]; exact z6
        · rw [hM0 65 (by omega), hM1 66 _ (by omega)]; exact z7
        · have s5 : Int32.toNatClampNeg (M 54 (Int32.toNatClampNeg (M 65 p))) < 6 := by
            have := (ht (Int32.toNatClampNeg (M 65 p)) z2).2.2.2.2.2.2.2.1.cl (by omega)
            omega
          rw [hM1 66 _ (by omega), hC _ _ (by omega), hM1 54 _ (by omega), p13 _ s5]; exact z8
    · rw [hM1 64 _ (by omega), hM1 64 _ (by omega), hM1 65 _ (by omega), hM1 65 _ (by omega)]; exact u2 p q hpq hq
    · rw [hM0 74 (by omega)] at ht'
      rw [hM1 55 _ (by omega)]
      intro z
      obtain ⟨p, w1, w2⟩ := u3 t ht' z
      exact ⟨p, w1, by rw [hM1 65 _ (by omega)]; exact w2⟩
  · refine ⟨fun m hm' => ?_, fun m hm' => ?_⟩
    · rw [hC _ _ (by omega), hM1 67 _ (by omega)]; exact hm.1 m hm'
    · rw [m22] at hm'
      rcases hm.2 m hm' with ⟨z1, z2⟩ | ⟨p, z1, z2, z3⟩
      · refine Or.inl ⟨by rw [hC _ _ (by omega)]; exact z1, fun p hp' => ?_⟩
        rw [hM1 64 _ (by omega)]; exact z2 p hp'
      · refine Or.inr ⟨p, by rw [m20]; exact z1, by rw [hC _ _ (by omega)]; exact z2, by rw [hM1 64 _ (by omega)]; exact z3⟩
end BNK
