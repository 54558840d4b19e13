/-! has, batch, lot, press, mould, needs, change -/
theorem sw2 (v : Int32) : v = 0 ∨ v = 1 ∨ (¬ v = 0 ∧ ¬ v = 1) := by
  by_cases h0 : v = 0
  · exact Or.inl h0
  by_cases h1 : v = 1
  · right; exact Or.inl h1
  right; right; exact ⟨h0, h1⟩
theorem sw3 (v : Int32) : v = 0 ∨ v = 1 ∨ v = 2 ∨ (¬ v = 0 ∧ ¬ v = 1 ∧ ¬ v = 2) := by
  by_cases h0 : v = 0
  · exact Or.inl h0
  by_cases h1 : v = 1
  · right; exact Or.inl h1
  by_cases h2 : v = 2
  · right; right; exact Or.inl h2
  right; right; right; exact ⟨h0, h1, h2⟩
theorem sw4 (v : Int32) : v = 0 ∨ v = 1 ∨ v = 2 ∨ v = 3 ∨ (¬ v = 0 ∧ ¬ v = 1 ∧ ¬ v = 2 ∧ ¬ v = 3) := by
  by_cases h0 : v = 0
  · exact Or.inl h0
  by_cases h1 : v = 1
  · right; exact Or.inl h1
  by_cases h2 : v = 2
  · right; right; exact Or.inl h2
  by_cases h3 : v = 3
  · right; right; right; exact Or.inl h3
  right; right; right; right; exact ⟨h0, h1, h2, h3⟩
theorem sw6 (v : Int32) : v = 0 ∨ v = 1 ∨ v = 2 ∨ v = 3 ∨ v = 4 ∨ v = 5 ∨ (¬ v = 0 ∧ ¬ v = 1 ∧ ¬ v = 2 ∧ ¬ v = 3 ∧ ¬ v = 4 ∧ ¬ v = 5) := by
  by_cases h0 : v = 0
  · exact Or.inl h0
  by_cases h1 : v = 1
  · right; exact Or.inl h1
  by_cases h2 : v = 2
  · right; right; exact Or.inl h2
  by_cases h3 : v = 3
  · right; right; right; exact Or.inl h3
  by_cases h4 : v = 4
  · right; right; right; right; exact Or.inl h4
  by_cases h5 : v = 5
  · right; right; right; right; right; exact Or.inl h5
  right; right; right; right; right; right; exact ⟨h0, h1, h2, h3, h4, h5⟩
theorem sw9 (v : Int32) : v = 0 ∨ v = 1 ∨ v = 2 ∨ v = 3 ∨ v = 4 ∨ v = 5 ∨ v = 6 ∨ v = 7 ∨ v = 8 ∨ (¬ v = 0 ∧ ¬ v = 1 ∧ ¬ v = 2 ∧ ¬ v = 3 ∧ ¬ v = 4 ∧ ¬ v = 5 ∧ ¬ v = 6 ∧ ¬ v = 7 ∧ ¬ v = 8) := by
  by_cases h0 : v = 0
  · exact Or.inl h0
  by_cases h1 : v = 1
  · right; exact Or.inl h1
  by_cases h2 : v = 2
  · right; right; exact Or.inl h2
  by_cases h3 : v = 3
  · right; right; right; exact Or.inl h3
  by_cases h4 : v = 4
  · right; right; right; right; exact Or.inl h4
  by_cases h5 : v = 5
  · right; right; right; right; right; exact Or.inl h5
  by_cases h6 : v = 6
  · right; right; right; right; right; right; exact Or.inl h6
  by_cases h7 : v = 7
  · right; right; right; right; right; right; right; exact Or.inl h7
  by_cases h8 : v = 8
  · right; right; right; right; right; right; right; right; exact Or.inl h8
  right; right; right; right; right; right; right; right; right; exact ⟨h0, h1, h2, h3, h4, h5, h6, h7, h8⟩
theorem sw12 (v : Int32) : v = 0 ∨ v = 1 ∨ v = 2 ∨ v = 3 ∨ v = 4 ∨ v = 5 ∨ v = 6 ∨ v = 7 ∨ v = 8 ∨ v = 9 ∨ v = 10 ∨ v = 11 ∨ (¬ v = 0 ∧ ¬ v = 1 ∧ ¬ v = 2 ∧ ¬ v = 3 ∧ ¬ v = 4 ∧ ¬ v = 5 ∧ ¬ v = 6 ∧ ¬ v = 7 ∧ ¬ v = 8 ∧ ¬ v = 9 ∧ ¬ v = 10 ∧ ¬ v = 11) := by
  by_cases h0 : v = 0
  · exact Or.inl h0
  by_cases h1 : v = 1
  · right; exact Or.inl h1
  by_cases h2 : v = 2
  · right; right; exact Or.inl h2
  by_cases h3 : v = 3
  · right; right; right; exact Or.inl h3
  by_cases h4 : v = 4
  · right; right; right; right; exact Or.inl h4
  by_cases h5 : v = 5
  · right; right; right; right; right; exact Or.inl h5
  by_cases h6 : v = 6
  · right; right; right; right; right; right; exact Or.inl h6
  by_cases h7 : v = 7
  · right; right; right; right; right; right; right; exact Or.inl h7
  by_cases h8 : v = 8
  · right; right; right; right; right; right; right; right; exact Or.inl h8
  by_cases h9 : v = 9
  · right; right; right; right; right; right; right; right; right; exact Or.inl h9
  by_cases h10 : v = 10
  · right; right; right; right; right; right; right; right; right; right; exact Or.inl h10
  by_cases h11 : v = 11
  · right; right; right; right; right; right; right; right; right; right; right; exact Or.inl h11
  right; right; right; right; right; right; right; right; right; right; right; right; exact ⟨h0, h1, h2, h3, h4, h5, h6, h7, h8, h9, h10, h11⟩
theorem nI_mul (a b : Nat) : nI a * nI b = nI (a * b) := (Int32.ofNat_mul a b).symm
theorem nI_ix (a b k : Nat) : nI a * nI b + nI k = nI (a * b + k) := by rw [nI_mul, nI_add]
theorem i_bm (z : Int) (h1 : -2147483648 ≤ z) (h2 : z < 2147483648) : z.bmod (2 ^ 32) = z := by
  unfold Int.bmod; dsimp only; split <;> omega
theorem i_sub {x y : Int32} (h1 : -2147483648 ≤ x.toInt - y.toInt) (h2 : x.toInt - y.toInt < 2147483648) : (x - y).toInt = x.toInt - y.toInt := by
  rw [Int32.toInt_sub, i_bm _ h1 h2]
theorem i_add {x y : Int32} (h1 : -2147483648 ≤ x.toInt + y.toInt) (h2 : x.toInt + y.toInt < 2147483648) : (x + y).toInt = x.toInt + y.toInt := by
  rw [Int32.toInt_add, i_bm _ h1 h2]
theorem nI_subT {a b : Nat} (ha : a < 2 ^ 31) (hb : b < 2 ^ 31) : (nI a - nI b).toInt = (a : Int) - b := by
  rw [i_sub (by rw [nI_toInt ha, nI_toInt hb]; omega) (by rw [nI_toInt ha, nI_toInt hb]; omega), nI_toInt ha, nI_toInt hb]
theorem nI_sub {a b : Nat} (ha : a < 2 ^ 31) (hb : b ≤ a) : nI a - nI b = nI (a - b) := by
  rw [i_eq, nI_subT ha (by omega), nI_toInt (by omega)]; omega
theorem nI_subP {a b : Nat} (ha : a < 2 ^ 31) (hb : b < 2 ^ 31) : 0 < nI a - nI b ↔ b < a := by
  rw [i_lt, nI_subT ha hb]
  have : (0 : Int32).toInt = 0 := rfl
  omega
theorem nI_lt0 {n : Nat} (h : 0 < n) (hn : n < 2 ^ 31) : (0 : Int32) < nI n := nI_lt (a := 0) h hn
section API2
variable {x : Bool} {C M : tI} {J Jc : tJ}
theorem k_has (h : Rl x C M J) (a : Int32) : Lk 114 221 [.int a] x C M Jc J := by
  have hc := h.Pc
  have hB := h.cB
  have hi := h.inB
  rcases sw12 a with rfl | rfl | rfl | rfl | rfl | rfl | rfl | rfl | rfl | rfl | rfl | rfl | hw
  · exact ⟨M 2 (xb x), x, C, M, J, by rw [b114_0, if_neg (by decide : ¬ (0 : Int32) < 0), if_neg (by decide : ¬ (6 : Int32) < 0), if_pos (by decide : am_in (0 : Int32) 9), (show Int32.toNatClampNeg 0 = 0 from rfl), hc.1.1], by rw [b221_0, if_pos (rfl : (0 : Int32) = 0), if_pos hi, hB], h⟩
  · exact ⟨M 6 (xb x), x, C, M, J, by rw [b114_0, if_neg (by decide : ¬ (1 : Int32) < 0), if_neg (by decide : ¬ (6 : Int32) < 1), if_pos (by decide : am_in (1 : Int32) 9), (show Int32.toNatClampNeg 1 = 1 from rfl), hc.2.1.1], by rw [b221_0, if_neg (by decide : ¬ (1 : Int32) = 0), if_pos (rfl : (1 : Int32) = 1), if_pos hi, hB], h⟩
  · exact ⟨M 11 (xb x), x, C, M, J, by rw [b114_0, if_neg (by decide : ¬ (2 : Int32) < 0), if_neg (by decide : ¬ (6 : Int32) < 2), if_pos (by decide : am_in (2 : Int32) 9), (show Int32.toNatClampNeg 2 = 2 from rfl), hc.2.2.1.1], by rw [b221_0, if_neg (by decide : ¬ (2 : Int32) = 0), if_neg (by decide : ¬ (2 : Int32) = 1), if_pos (rfl : (2 : Int32) = 2), if_pos hi, hB], h⟩
  · exact ⟨M 20 (xb x), x, C, M, J, by rw [b114_0, if_neg (by decide : ¬ (3 : Int32) < 0), if_neg (by decide : ¬ (6 : Int32) < 3), if_pos (by decide : am_in (3 : Int32) 9), (show Int32.toNatClampNeg 3 = 3 from rfl), hc.2.2.2.1.1], by rw [b221_0, if_neg (by decide : ¬ (3 : Int32) = 0), if_neg (by decide : ¬ (3 : Int32) = 1), if_neg (by decide : ¬ (3 : Int32) = 2), if_pos (rfl : (3 : Int32) = 3), if_pos hi, hB], h⟩
  · exact ⟨M 22 (xb x), x, C, M, J, by rw [b114_0, if_neg (by decide : ¬ (4 : Int32) < 0), if_neg (by decide : ¬ (6 : Int32) < 4), if_pos (by decide : am_in (4 : Int32) 9), (show Int32.toNatClampNeg 4 = 4 from rfl), hc.2.2.2.2.1.1], by rw [b221_0, if_neg (by decide : ¬ (4 : Int32) = 0), if_neg (by decide : ¬ (4 : Int32) = 1), if_neg (by decide : ¬ (4 : Int32) = 2), if_neg (by decide : ¬ (4 : Int32) = 3), if_pos (rfl : (4 : Int32) = 4), if_pos hi, hB], h⟩
  · exact ⟨M 26 (xb x), x, C, M, J, by rw [b114_0, if_neg (by decide : ¬ (5 : Int32) < 0), if_neg (by decide : ¬ (6 : Int32) < 5), if_pos (by decide : am_in (5 : Int32) 9), (show Int32.toNatClampNeg 5 = 5 from rfl), hc.2.2.2.2.2.1.1], by rw [b221_0, if_neg (by decide : ¬ (5 : Int32) = 0), if_neg (by decide : ¬ (5 : Int32) = 1), if_neg (by decide : ¬ (5 : Int32) = 2), if_neg (by decide : ¬ (5 : Int32) = 3), if_neg (by decide : ¬ (5 : Int32) = 4), if_pos (rfl : (5 : Int32) = 5), if_pos hi, hB], h⟩
  · exact ⟨M 34 (xb x), x, C, M, J, by rw [b114_0, if_neg (by decide : ¬ (6 : Int32) < 0), if_neg (by decide : ¬ (6 : Int32) < 6), if_pos (by decide : am_in (6 : Int32) 9), (show Int32.toNatClampNeg 6 = 6 from rfl), hc.2.2.2.2.2.2.1.1], by rw [b221_0, if_neg (by decide : ¬ (6 : Int32) = 0), if_neg (by decide : ¬ (6 : Int32) = 1), if_neg (by decide : ¬ (6 : Int32) = 2), if_neg (by decide : ¬ (6 : Int32) = 3), if_neg (by decide : ¬ (6 : Int32) = 4), if_neg (by decide : ¬ (6 : Int32) = 5), if_pos (rfl : (6 : Int32) = 6), if_pos hi, hB], h⟩
  · exact ⟨M 0 65, x, C, M, J, by rw [b114_0, if_neg (by decide : ¬ (7 : Int32) < 0), if_pos (by decide : (6 : Int32) < 7), b114_23, if_pos (rfl : (7 : Int32) = 7), h.hour], by rw [b221_0, if_neg (by decide : ¬ (7 : Int32) = 0), if_neg (by decide : ¬ (7 : Int32) = 1), if_neg (by decide : ¬ (7 : Int32) = 2), if_neg (by decide : ¬ (7 : Int32) = 3), if_neg (by decide : ¬ (7 : Int32) = 4), if_neg (by decide : ¬ (7 : Int32) = 5), if_neg (by decide : ¬ (7 : Int32) = 6), if_pos (rfl : (7 : Int32) = 7)], h⟩
  · exact ⟨M 0 66, x, C, M, J, by rw [b114_0, if_neg (by decide : ¬ (8 : Int32) < 0), if_pos (by decide : (6 : Int32) < 8), b114_23, if_neg (by decide : ¬ (8 : Int32) = 7), if_pos (rfl : (8 : Int32) = 8), h.nb], by rw [b221_0, if_neg (by decide : ¬ (8 : Int32) = 0), if_neg (by decide : ¬ (8 : Int32) = 1), if_neg (by decide : ¬ (8 : Int32) = 2), if_neg (by decide : ¬ (8 : Int32) = 3), if_neg (by decide : ¬ (8 : Int32) = 4), if_neg (by decide : ¬ (8 : Int32) = 5), if_neg (by decide : ¬ (8 : Int32) = 6), if_neg (by decide : ¬ (8 : Int32) = 7), if_pos (rfl : (8 : Int32) = 8)], h⟩
  · exact ⟨M 0 70, x, C, M, J, by rw [b114_0, if_neg (by decide : ¬ (9 : Int32) < 0), if_pos (by decide : (6 : Int32) < 9), b114_23, if_neg (by decide : ¬ (9 : Int32) = 7), if_neg (by decide : ¬ (9 : Int32) = 8), if_pos (rfl : (9 : Int32) = 9), h.nl], by rw [b221_0, if_neg (by decide : ¬ (9 : Int32) = 0), if_neg (by decide : ¬ (9 : Int32) = 1), if_neg (by decide : ¬ (9 : Int32) = 2), if_neg (by decide : ¬ (9 : Int32) = 3), if_neg (by decide : ¬ (9 : Int32) = 4), if_neg (by decide : ¬ (9 : Int32) = 5), if_neg (by decide : ¬ (9 : Int32) = 6), if_neg (by decide : ¬ (9 : Int32) = 7), if_neg (by decide : ¬ (9 : Int32) = 8), if_pos (rfl : (9 : Int32) = 9)], h⟩
  · exact ⟨M 0 74, x, C, M, J, by rw [b114_0, if_neg (by decide : ¬ (10 : Int32) < 0), if_pos (by decide : (6 : Int32) < 10), b114_23, if_neg (by decide : ¬ (10 : Int32) = 7), if_neg (by decide : ¬ (10 : Int32) = 8), if_neg (by decide : ¬ (10 : Int32) = 9), if_pos (rfl : (10 : Int32) = 10), h.nt], by rw [b221_0, if_neg (by decide : ¬ (10 : Int32) = 0), if_neg (by decide : ¬ (10 : Int32) = 1), if_neg (by decide : ¬ (10 : Int32) = 2), if_neg (by decide : ¬ (10 : Int32) = 3), if_neg (by decide : ¬ (10 : Int32) = 4), if_neg (by decide : ¬ (10 : Int32) = 5), if_neg (by decide : ¬ (10 : Int32) = 6), if_neg (by decide : ¬ (10 : Int32) = 7), if_neg (by decide : ¬ (10 : Int32) = 8), if_neg (by decide : ¬ (10 : Int32) = 9), if_pos (rfl : (10 : Int32) = 10)], h⟩
  · exact ⟨M 0 90, x, C, M, J, by rw [b114_0, if_neg (by decide : ¬ (11 : Int32) < 0), if_pos (by decide : (6 : Int32) < 11), b114_23, if_neg (by decide : ¬ (11 : Int32) = 7), if_neg (by decide : ¬ (11 : Int32) = 8), if_neg (by decide : ¬ (11 : Int32) = 9), if_neg (by decide : ¬ (11 : Int32) = 10), if_pos (rfl : (11 : Int32) = 11), h.mnt], by rw [b221_0, if_neg (by decide : ¬ (11 : Int32) = 0), if_neg (by decide : ¬ (11 : Int32) = 1), if_neg (by decide : ¬ (11 : Int32) = 2), if_neg (by decide : ¬ (11 : Int32) = 3), if_neg (by decide : ¬ (11 : Int32) = 4), if_neg (by decide : ¬ (11 : Int32) = 5), if_neg (by decide : ¬ (11 : Int32) = 6), if_neg (by decide : ¬ (11 : Int32) = 7), if_neg (by decide : ¬ (11 : Int32) = 8), if_neg (by decide : ¬ (11 : Int32) = 9), if_neg (by decide : ¬ (11 : Int32) = 10), if_pos (rfl : (11 : Int32) = 11)], h⟩
  · have n7 := hw.2.2.2.2.2.2.2
    have e : am_G (am_ev 100) 114 [.ref 0, .int a] (C, Jc, (tc_R x), tc_S, 289, 11479) = am_ev 100 114 23 [.ref 0, .int a] [] (C, Jc, (tc_R x), tc_S, 289, 11479) := by
      rw [b114_0]
      by_cases h0 : a < 0
      · rw [if_pos h0]
      · rw [if_neg h0]
        by_cases h6 : (6 : Int32) < a
        · rw [if_pos h6]
        · exfalso
          obtain ⟨j, hj, rfl⟩ := nI_of h0
          have e6 : (6 : Int32) = nI 6 := rfl
          rw [e6, nI_ltI (by omega) hj] at h6
          have : j = 0 ∨ j = 1 ∨ j = 2 ∨ j = 3 ∨ j = 4 ∨ j = 5 ∨ j = 6 := by omega
          rcases this with rfl | rfl | rfl | rfl | rfl | rfl | rfl
          · exact hw.1 rfl
          · exact hw.2.1 rfl
          · exact hw.2.2.1 rfl
          · exact hw.2.2.2.1 rfl
          · exact hw.2.2.2.2.1 rfl
          · exact hw.2.2.2.2.2.1 rfl
          · exact hw.2.2.2.2.2.2.1 rfl
    exact ⟨-1, x, C, M, J, by rw [e, b114_23, if_neg n7.1, if_neg n7.2.1, if_neg n7.2.2.1, if_neg n7.2.2.2.1, if_neg n7.2.2.2.2], by rw [b221_0, if_neg hw.1, if_neg hw.2.1, if_neg hw.2.2.1, if_neg hw.2.2.2.1, if_neg hw.2.2.2.2.1, if_neg hw.2.2.2.2.2.1, if_neg hw.2.2.2.2.2.2.1, if_neg hw.2.2.2.2.2.2.2.1, if_neg hw.2.2.2.2.2.2.2.2.1, if_neg hw.2.2.2.2.2.2.2.2.2.1, if_neg hw.2.2.2.2.2.2.2.2.2.2.1, if_neg hw.2.2.2.2.2.2.2.2.2.2.2], h⟩
/-- a batch is fit -/
abbrev fitP (M : tI) (x : Bool) (b : Nat) : Prop := M 4 (6 * xb x + Int32.toNatClampNeg (M 48 b)) ≤ M 0 65 - M 50 b ∧ M 0 65 - M 50 b ≤ M 5 (6 * xb x + Int32.toNatClampNeg (M 48 b))
theorem Rl.b48 (h : Rl x C M J) {b : Nat} (hb : b < Int32.toNatClampNeg (M 0 66)) : 6 * M 0 12 + M 48 b = nI (6 * xb x + Int32.toNatClampNeg (M 48 b)) ∧ Int32.toNatClampNeg (M 48 b) < 6 := by
  have g := h.H.2.1 b hb
  have e := g.2.2.2.1.eq (by omega)
  have l := g.2.2.2.1.cl (by omega)
  refine ⟨?_, by omega⟩
  rw [h.B]
  conv => lhs; rw [e]
  exact nI_ix 6 (xb x) _
theorem Rl.fitC (h : Rl x C M J) {b : Nat} (hb : b < Int32.toNatClampNeg (M 0 66)) (d : Nat) : am_G (am_ev (d + 1)) 12 [.ref 41, .int (nI b)] (C, Jc, (tc_R x), tc_S, 289, 11479) = some (some (.int (am_b (fitP M x b))), (C, Jc, (tc_R x), tc_S, 289, 11479)) := by
  have g := h.H.2.1 b hb
  have hn := h.nbB.cl (by omega)
  have hi : am_in (nI b) 24 := nI_in (by omega) (by omega)
  have hc : (nI b).toNatClampNeg = b := nI_clamp (by omega)
  have hk := tb_k (k := b) (by omega)
  have hm : am_in (M 48 b) 6 := g.2.2.2.1.inn (by omega) (by omega)
  have hp := h.P.2.2.1 (Int32.toNatClampNeg (M 48 b)) g.2.2.2.2.1
  (rw [b12_0, if_pos hi]; (try simp only [hc]); rw [if_pos hk, if_pos hi, if_pos hk, g.1, if_pos hm, h.hour, g.2.2.1, hp.1, hp.2.1])
  unfold fitP am_b
  by_cases h1 : M 0 65 - M 50 b < M 4 (6 * xb x + Int32.toNatClampNeg (M 48 b))
  · rw [if_pos h1, if_neg (fun q => absurd q.1 (Int32.not_le.mpr h1))]
  · rw [if_neg h1, if_pos hm]
    by_cases h2 : M 5 (6 * xb x + Int32.toNatClampNeg (M 48 b)) < M 0 65 - M 50 b
    · rw [if_pos h2, if_neg (fun q => absurd q.2 (Int32.not_le.mpr h2))]
    · rw [if_neg h2, if_pos ⟨Int32.not_lt.mp h1, Int32.not_lt.mp h2⟩]
theorem Rl.fitM (h : Rl x C M J) {b : Nat} (hb : b < Int32.toNatClampNeg (M 0 66)) (d : Nat) : am_G (am_ev (d + 2)) 220 [.ref 0, .int (nI b)] (M, J, tm_R, tm_S, 77, 21637) = some (some (.int (am_b (fitP M x b))), (M, J, tm_R, tm_S, 77, 21637)) := by
  have hn := h.nbB.cl (by omega)
  have hx := xb1 x
  have hi : am_in (nI b) 24 := nI_in (by omega) (by omega)
  have hc : (nI b).toNatClampNeg = b := nI_clamp (by omega)
  obtain ⟨e, l⟩ := h.b48 hb
  have hm : am_in (6 * M 0 12 + M 48 (nI b).toNatClampNeg) 12 := by ((try simp only [hc]); rw [e]); exact nI_in (by omega) (by omega)
  rw [m_isFit d M J (nI b) hi hm]
  simp only [hc, e, nI_clamp (show 6 * xb x + Int32.toNatClampNeg (M 48 b) < 2 ^ 31 by omega)]
theorem Rl.fitCv (h : Rl x C M J) {v : Int32} (e : v = nI (Int32.toNatClampNeg v)) (hb : Int32.toNatClampNeg v < Int32.toNatClampNeg (M 0 66)) (d : Nat) : am_G (am_ev (d + 1)) 12 [.ref 41, .int v] (C, Jc, (tc_R x), tc_S, 289, 11479) = some (some (.int (am_b (fitP M x (Int32.toNatClampNeg v)))), (C, Jc, (tc_R x), tc_S, 289, 11479)) := by
  have q := h.fitC (Jc := Jc) hb d
  rw [← e] at q; exact q
theorem Rl.fitMv (h : Rl x C M J) {v : Int32} (e : v = nI (Int32.toNatClampNeg v)) (hb : Int32.toNatClampNeg v < Int32.toNatClampNeg (M 0 66)) (d : Nat) : am_G (am_ev (d + 2)) 220 [.ref 0, .int v] (M, J, tm_R, tm_S, 77, 21637) = some (some (.int (am_b (fitP M x (Int32.toNatClampNeg v)))), (M, J, tm_R, tm_S, 77, 21637)) := by
  have q := h.fitM hb d
  rw [← e] at q; exact q
theorem Rl.ageC (h : Rl x C M J) {b : Nat} (hb : b < Int32.toNatClampNeg (M 0 66)) (d : Nat) : am_G (am_ev (d + 1)) 11 [.ref 41, .int (nI b)] (C, Jc, (tc_R x), tc_S, 289, 11479) = some (some (.int (M 0 65 - M 50 b)), (C, Jc, (tc_R x), tc_S, 289, 11479)) := by
  have g := h.H.2.1 b hb
  have hn := h.nbB.cl (by omega)
  (rw [b11_0, if_pos (nI_in (by omega) (by omega))]; (try simp (disch := omega) only [nI_clamp]); rw [if_pos (tb_k (by omega)), h.hour, g.2.2.1])
theorem Rl.ageM (h : Rl x C M J) {b : Nat} (hb : b < Int32.toNatClampNeg (M 0 66)) (d : Nat) : am_G (am_ev (d + 1)) 219 [.ref 0, .int (nI b)] (M, J, tm_R, tm_S, 77, 21637) = some (some (.int (M 0 65 - M 50 b)), (M, J, tm_R, tm_S, 77, 21637)) := by
  have hn := h.nbB.cl (by omega)
  (rw [m_age d M J (nI b) (nI_in (by omega) (by omega))]; (try simp (disch := omega) only [nI_clamp]))
theorem am_bif {p : Prop} [Decidable p] {α : Type} (a b : α) : (if am_b p = 0 then a else b) = if p then b else a := by
  by_cases h : p
  · rw [am_b1 h, if_neg (by decide : ¬ (1 : Int32) = 0), if_pos h]
  · rw [am_b0 h, if_pos rfl, if_neg h]
theorem am_bif1 {p : Prop} [Decidable p] : (if p then (1 : Int32) else 0) = am_b p := rfl
theorem ite_int {p : Prop} [Decidable p] (a b : Int32) (m : am_M) : (if p then some (some (.int a), m) else some (some (.int b), m) : am_O) = some (some (.int (if p then a else b)), m) := by split <;> rfl
theorem k_batch (h : Rl x C M J) (a w : Int32) : Lk 118 226 [.int a, .int w] x C M Jc J := by
  rcases h.ba (Jc := Jc) a 98 97 with ⟨e1, e2⟩ | ⟨b, hb, rfl, hb24, e1, e2⟩
  · exact ⟨-1, x, C, M, J, by rw [b118_0, e1, am_call_s, am_toL, b118_8, if_pos rfl], by rw [b226_0, e2, am_call_s, am_toL, b226_5, if_pos rfl], h⟩
  · have g := h.H.2.1 b hb
    have hi : am_in (nI b) 24 := nI_in hb24 (by omega)
    have hc : (nI b).toNatClampNeg = b := nI_clamp (by omega)
    have hk := tb_k hb24
    obtain ⟨e6, l6⟩ := h.b48 hb
    have hx := xb1 x
    have i12 : am_in (nI (6 * xb x + Int32.toNatClampNeg (M 48 b))) 12 := nI_in (by omega) (by omega)
    have c12 : (nI (6 * xb x + Int32.toNatClampNeg (M 48 b))).toNatClampNeg = 6 * xb x + Int32.toNatClampNeg (M 48 b) := nI_clamp (by omega)
    have hm : am_in (M 48 b) 6 := g.2.2.2.1.inn (by omega) (by omega)
    have hp := h.P.2.2.1 (Int32.toNatClampNeg (M 48 b)) g.2.2.2.2.1
    have f1 : am_G (am_ev 100) 118 [.ref 0, .int (nI b), .int w] (C, Jc, (tc_R x), tc_S, 289, 11479) = am_ev 100 118 8 [.ref 0, .int (nI b), .int w] [.int 1] (C, Jc, (tc_R x), tc_S, 289, 11479) := by rw [b118_0, e1, am_call_s, am_toL]
    have f2 : am_G (am_ev 100) 226 [.ref 0, .int (nI b), .int w] (M, J, tm_R, tm_S, 77, 21637) = am_ev 100 226 20 [.ref 0, .int (nI b), .int w, am_un] [.int (nI (6 * xb x + Int32.toNatClampNeg (M 48 b)))] (M, J, tm_R, tm_S, 77, 21637) := by
      (rw [b226_0, e2, am_call_s, am_toL, b226_5, if_neg (by decide : ¬ (1 : Int32) = 0), if_pos hi]; (try simp only [hc]); rw [m_mix6, am_call_s, am_toL, e6])
    obtain ⟨r, hr, er⟩ := hp.2.2.1
    obtain ⟨s, hs, es⟩ := hp.2.2.2.1
    obtain ⟨t, ht, et⟩ := h.hourB
    obtain ⟨m, hm9, em⟩ := g.2.2.2.2.2.2.1
    have mt : m ≤ t := by
      have q := g.2.2.2.2.2.2.2
      (rw [em, et] at q; (try simp (disch := omega) only [nI_clamp] at q)); exact q
    have ea : M 0 65 - M 50 b = nI (t - m) := by rw [em, et, nI_sub (by omega) mt]
    have rs : r ≤ s := by
      have q := hp.2.2.2.2
      (rw [er, es] at q; (try simp (disch := omega) only [nI_clamp] at q)); exact q
    rcases sw6 w with rfl | rfl | rfl | rfl | rfl | rfl | hw
    · exact ⟨M 48 b, x, C, M, J, by (rw [f1, b118_8, if_neg (by decide : ¬ (1 : Int32) = 0), if_pos (rfl : (0 : Int32) = 0), if_pos hi]; (try simp only [hc]); rw [if_pos hk, g.1]), by (rw [f2, b226_20, if_pos (rfl : (0 : Int32) = 0), if_pos hi]; (try simp only [hc])), h⟩
    · exact ⟨M 49 b, x, C, M, J, by (rw [f1, b118_8, if_neg (by decide : ¬ (1 : Int32) = 0), if_neg (by decide : ¬ (1 : Int32) = 0), if_pos (rfl : (1 : Int32) = 1), if_pos hi]; (try simp only [hc]); rw [if_pos hk, g.2.1]), by (rw [f2, b226_20, if_neg (by decide : ¬ (1 : Int32) = 0), if_pos (rfl : (1 : Int32) = 1), if_pos hi]; (try simp only [hc])), h⟩
    · exact ⟨M 0 65 - M 50 b, x, C, M, J, by rw [f1, b118_8, if_neg (by decide : ¬ (1 : Int32) = 0), if_neg (by decide : ¬ (2 : Int32) = 0), if_neg (by decide : ¬ (2 : Int32) = 1), if_pos (rfl : (2 : Int32) = 2), h.ageC hb, am_call_s, am_toL, b118_86], by rw [f2, b226_20, if_neg (by decide : ¬ (2 : Int32) = 0), if_neg (by decide : ¬ (2 : Int32) = 1), if_pos (rfl : (2 : Int32) = 2), h.ageM hb, am_call_s, am_toL, b226_79], h⟩
    · exact ⟨am_b (fitP M x b), x, C, M, J, by rw [f1, b118_8, if_neg (by decide : ¬ (1 : Int32) = 0), if_neg (by decide : ¬ (3 : Int32) = 0), if_neg (by decide : ¬ (3 : Int32) = 1), if_neg (by decide : ¬ (3 : Int32) = 2), if_pos (rfl : (3 : Int32) = 3), h.fitC hb, am_call_s, am_toL, b118_95, am_bif, ite_int]; rfl, by rw [f2, b226_20, if_neg (by decide : ¬ (3 : Int32) = 0), if_neg (by decide : ¬ (3 : Int32) = 1), if_neg (by decide : ¬ (3 : Int32) = 2), if_pos (rfl : (3 : Int32) = 3), h.fitM hb, am_call_s, am_toL, b226_85, am_bif, ite_int]; rfl, h⟩
    · refine ⟨if nI (t - m) ≤ nI s then (if nI r ≤ nI (t - m) then 0 else nI r - nI (t - m)) else -1, x, C, M, J, ?_, ?_, h⟩
      · (rw [f1, b118_8, if_neg (by decide : ¬ (1 : Int32) = 0), if_neg (by decide : ¬ (4 : Int32) = 0), if_neg (by decide : ¬ (4 : Int32) = 1), if_neg (by decide : ¬ (4 : Int32) = 2), if_neg (by decide : ¬ (4 : Int32) = 3), if_pos (rfl : (4 : Int32) = 4), b13_0, if_pos hi]; (try simp only [hc]); rw [if_pos hk, h.ageC hb, am_call_s, am_toL, b13_15, g.1, if_pos hm, hp.2.1, es, ea])
        by_cases q : nI (t - m) ≤ nI s
        · rw [if_pos q, if_pos hm, hp.1, er, b288_0, if_pos q]
          by_cases q2 : nI r ≤ nI (t - m)
          · rw [if_pos q2, if_neg (fun w => by rw [nI_subP (by omega) (by omega)] at w; rw [nI_leI (by omega) (by omega)] at q2; omega), am_call_s, am_toL, b13_48, am_call_s, am_toL, b118_112]
          · rw [if_neg q2, if_pos (by rw [nI_subP (by omega) (by omega)]; rw [nI_leI (by omega) (by omega)] at q2; omega), am_call_s, am_toL, b13_48, am_call_s, am_toL, b118_112]
        · rw [if_neg q, if_neg q, b13_48, am_call_s, am_toL, b118_112]
      · (rw [f2, b226_20, if_neg (by decide : ¬ (4 : Int32) = 0), if_neg (by decide : ¬ (4 : Int32) = 1), if_neg (by decide : ¬ (4 : Int32) = 2), if_neg (by decide : ¬ (4 : Int32) = 3), if_pos (rfl : (4 : Int32) = 4), h.ageM hb, am_call_s, am_toL, b226_99, if_pos i12]; (try simp only [c12]); rw [es, ea])
        by_cases q : nI (t - m) ≤ nI s
        · (rw [if_pos q, if_pos q, h.ageM hb, am_call_s, am_toL, b226_117, if_pos i12]; (try simp only [c12]); rw [er, ea])
          by_cases q2 : nI r ≤ nI (t - m)
          · rw [if_pos q2, if_pos q2]
          · rw [if_neg q2, if_neg q2, if_pos i12, h.ageM hb, am_call_s, am_toL, b226_137, ea]
        · rw [if_neg q, if_neg q]
    · refine ⟨if nI (t - m) ≤ nI s then (if nI r ≤ nI (t - m) then nI s - nI (t - m) + 1 else nI s - nI r + 1) else 0, x, C, M, J, ?_, ?_, h⟩
      · have mx : am_G (am_ev 98) 288 [.int (nI (t - m)), .int (nI r)] (C, Jc, (tc_R x), tc_S, 289, 11479) = some (some (.int (if nI r ≤ nI (t - m) then nI (t - m) else nI r)), (C, Jc, (tc_R x), tc_S, 289, 11479)) := by
          rw [b288_0]
          by_cases q2 : nI r ≤ nI (t - m)
          · rw [if_pos q2, if_neg (Int32.not_lt.mpr q2)]
          · rw [if_neg q2, if_pos (Int32.not_le.mp q2)]
        (rw [f1, b118_8, if_neg (by decide : ¬ (1 : Int32) = 0), if_neg (by decide : ¬ (5 : Int32) = 0), if_neg (by decide : ¬ (5 : Int32) = 1), if_neg (by decide : ¬ (5 : Int32) = 2), if_neg (by decide : ¬ (5 : Int32) = 3), if_neg (by decide : ¬ (5 : Int32) = 4), if_pos (rfl : (5 : Int32) = 5), b14_0, if_pos hi]; (try simp only [hc]); rw [if_pos hk, h.ageC hb, am_call_s, am_toL, b14_15, g.1, if_pos hm, hp.1, er, ea, mx, am_call_s, am_toL, b14_27, if_pos hm, hp.2.1, es, b288_0])
        by_cases q2 : nI r ≤ nI (t - m)
        · rw [if_pos q2, if_pos q2]
          rw [nI_leI (by omega) (by omega)] at q2
          by_cases q : nI (t - m) ≤ nI s
          · rw [if_pos q]
            rw [nI_leI (by omega) (by omega)] at q
            rw [nI_sub (by omega) q, nI_1, if_pos (nI_lt0 (by omega) (by omega)), am_call_s, am_toL, b14_45, am_call_s, am_toL, b118_121]
          · rw [if_neg q]
            rw [nI_leI (by omega) (by omega)] at q
            have e : ¬ (0 : Int32) < nI s - nI (t - m) + 1 := by
              have z : (0 : Int32).toInt = 0 := rfl
              have z1 : (1 : Int32).toInt = 1 := rfl
              have z2 := nI_subT (a := s) (b := t - m) (by omega) (by omega)
              rw [i_lt, i_add (by omega) (by omega), z, z1, z2]; omega
            rw [if_neg e, am_call_s, am_toL, b14_45, am_call_s, am_toL, b118_121]
        · rw [if_neg q2, if_neg q2]
          rw [nI_leI (by omega) (by omega)] at q2
          rw [if_pos (nI_le (by omega) (by omega)), nI_sub (by omega) rs, nI_1, if_pos (nI_lt0 (by omega) (by omega)), am_call_s, am_toL, b14_45, am_call_s, am_toL, b118_121]
      · (rw [f2, b226_20, if_neg (by decide : ¬ (5 : Int32) = 0), if_neg (by decide : ¬ (5 : Int32) = 1), if_neg (by decide : ¬ (5 : Int32) = 2), if_neg (by decide : ¬ (5 : Int32) = 3), if_neg (by decide : ¬ (5 : Int32) = 4), if_pos (rfl : (5 : Int32) = 5), h.ageM hb, am_call_s, am_toL, b226_148, if_pos i12]; (try simp only [c12]); rw [es, ea])
        by_cases q : nI (t - m) ≤ nI s
        · (rw [if_pos q, if_pos q, h.ageM hb, am_call_s, am_toL, b226_166, if_pos i12]; (try simp only [c12]); rw [er, ea])
          by_cases q2 : nI r ≤ nI (t - m)
          · rw [if_pos q2, if_pos q2, if_pos i12, h.ageM hb, am_call_s, am_toL, b226_204, ea, es]
          · rw [if_neg q2, if_neg q2, if_pos i12, if_pos i12, es]
        · rw [if_neg q, if_neg q]
    · exact ⟨-1, x, C, M, J, by rw [f1, b118_8, if_neg (by decide : ¬ (1 : Int32) = 0), if_neg hw.1, if_neg hw.2.1, if_neg hw.2.2.1, if_neg hw.2.2.2.1, if_neg hw.2.2.2.2.1, if_neg hw.2.2.2.2.2], by rw [f2, b226_20, if_neg hw.1, if_neg hw.2.1, if_neg hw.2.2.1, if_neg hw.2.2.2.1, if_neg hw.2.2.2.2.1, if_neg hw.2.2.2.2.2], h⟩
theorem k_lot (h : Rl x C M J) (a w : Int32) : Lk 119 227 [.int a, .int w] x C M Jc J := by
  rcases h.lo a 97 with ⟨e1, e2⟩ | ⟨l, hl, rfl, hl40, e1, e2⟩
  · refine ⟨-1, x, C, M, J, ?_, by rw [b227_0, e2, am_call_s, am_toL, b227_5, if_pos rfl], h⟩
    rw [b119_0]
    by_cases h0 : a < 0
    · rw [if_pos h0]
    · rw [if_neg h0, if_neg (e1.resolve_left h0)]
  · have g := h.H.2.2.1 l hl
    have hi : am_in (nI l) 40 := nI_in hl40 (by omega)
    have hc : (nI l).toNatClampNeg = l := nI_clamp (by omega)
    have hk := tl_k hl40
    have f1 := Eq.refl (am_G (am_ev 100) 119 [.ref 0, .int (nI l), .int w] (C, Jc, (tc_R x), tc_S, 289, 11479))
    conv at f1 => rhs; rw [b119_0, if_neg (nI_pos (by omega)), if_pos e1, if_pos hi]; (try simp only [hc])
    have f2 := Eq.refl (am_G (am_ev 100) 227 [.ref 0, .int (nI l), .int w] (M, J, tm_R, tm_S, 77, 21637))
    conv at f2 => rhs; rw [b227_0, e2, am_call_s, am_toL, b227_5, if_neg (by decide : ¬ (1 : Int32) = 0)]; (try simp only [hc])
    rcases sw4 w with rfl | rfl | rfl | rfl | hw
    · exact ⟨M 51 l, x, C, M, J, by rw [f1, if_pos (rfl : (0 : Int32) = 0), if_pos hk, g.1], by rw [f2, if_pos (rfl : (0 : Int32) = 0), if_pos hi], h⟩
    · exact ⟨M 52 l, x, C, M, J, by rw [f1, if_neg (by decide : ¬ (1 : Int32) = 0), if_pos (rfl : (1 : Int32) = 1), if_pos hk, g.2.1], by rw [f2, if_neg (by decide : ¬ (1 : Int32) = 0), if_pos (rfl : (1 : Int32) = 1), if_pos hi], h⟩
    · exact ⟨M 53 l, x, C, M, J, by rw [f1, if_neg (by decide : ¬ (2 : Int32) = 0), if_neg (by decide : ¬ (2 : Int32) = 1), if_pos (rfl : (2 : Int32) = 2), if_pos hk, g.2.2.1], by rw [f2, if_neg (by decide : ¬ (2 : Int32) = 0), if_neg (by decide : ¬ (2 : Int32) = 1), if_pos (rfl : (2 : Int32) = 2), if_pos hi], h⟩
    · have eb := g.2.2.2.2.2.1.eq (by omega)
      have hb := g.2.2.2.2.2.2.1
      refine ⟨am_b (fitP M x (Int32.toNatClampNeg (M 52 l))), x, C, M, J, ?_, ?_, h⟩
      · rw [f1, if_neg (by decide : ¬ (3 : Int32) = 0), if_neg (by decide : ¬ (3 : Int32) = 1), if_neg (by decide : ¬ (3 : Int32) = 2), if_pos (rfl : (3 : Int32) = 3), if_pos hk, g.2.1, h.fitCv eb hb, am_call_s, am_toL, b119_86, am_bif, ite_int]; rfl
      · rw [f2, if_neg (by decide : ¬ (3 : Int32) = 0), if_neg (by decide : ¬ (3 : Int32) = 1), if_neg (by decide : ¬ (3 : Int32) = 2), if_pos (rfl : (3 : Int32) = 3), if_pos hi, h.fitMv eb hb, am_call_s, am_toL, b227_68, am_bif, ite_int]; rfl
    · exact ⟨-1, x, C, M, J, by rw [f1, if_neg hw.1, if_neg hw.2.1, if_neg hw.2.2.1, if_neg hw.2.2.2], by rw [f2, if_neg hw.1, if_neg hw.2.1, if_neg hw.2.2.1, if_neg hw.2.2.2], h⟩
theorem k_press (h : Rl x C M J) (a w : Int32) : Lk 121 230 [.int a, .int w] x C M Jc J := by
  rcases h.kind (Jc := Jc) (q := 3) (by omega) a 98 97 with ⟨e1, e2⟩ | ⟨p, hp, rfl, hp4, e1, e2⟩
  · exact ⟨-1, x, C, M, J, by rw [b121_0, (show (3 : Int32) = nI 3 from rfl), e1, am_call_s, am_toL, b121_12, if_pos rfl], by rw [b230_0, (show (3 : Int32) = nI 3 from rfl), e2, am_call_s, am_toL, b230_6, if_pos rfl], h⟩
  · have hp4 : p < 4 := hp4
    have g := h.H.2.2.2.2.1.1 p hp4
    have hi : am_in (nI p) 4 := nI_in hp4 (by omega)
    have hc : (nI p).toNatClampNeg = p := nI_clamp (by omega)
    have hk := tp_k hp4
    have f1 := Eq.refl (am_G (am_ev 100) 121 [.ref 0, .int (nI p), .int w] (C, Jc, (tc_R x), tc_S, 289, 11479))
    conv at f1 => rhs; rw [b121_0, (show (3 : Int32) = nI 3 from rfl), e1, am_call_s, am_toL, b121_12, if_neg (by decide : ¬ (1 : Int32) = 0), if_pos hi]; (try simp only [hc])
    have f2 := Eq.refl (am_G (am_ev 100) 230 [.ref 0, .int (nI p), .int w] (M, J, tm_R, tm_S, 77, 21637))
    conv at f2 => rhs; rw [b230_0, (show (3 : Int32) = nI 3 from rfl), e2, am_call_s, am_toL, b230_6, if_neg (by decide : ¬ (1 : Int32) = 0)]; (try simp only [hc])
    rcases sw3 w with rfl | rfl | rfl | hw
    · exact ⟨M 64 p, x, C, M, J, by rw [f1, if_pos (rfl : (0 : Int32) = 0), if_pos hk, g.1], by rw [f2, if_pos (rfl : (0 : Int32) = 0), if_pos hi], h⟩
    · exact ⟨M 65 p, x, C, M, J, by rw [f1, if_neg (by decide : ¬ (1 : Int32) = 0), if_pos (rfl : (1 : Int32) = 1), if_pos hk, g.2.1], by rw [f2, if_neg (by decide : ¬ (1 : Int32) = 0), if_pos (rfl : (1 : Int32) = 1), if_pos hi], h⟩
    · rcases g.2.2.2.2 with q | q
      · exact ⟨M 0 65, x, C, M, J, by rw [f1, if_neg (by decide : ¬ (2 : Int32) = 0), if_neg (by decide : ¬ (2 : Int32) = 1), if_pos (rfl : (2 : Int32) = 2), if_pos hk, g.2.1, if_pos q, h.hour], by rw [f2, if_neg (by decide : ¬ (2 : Int32) = 0), if_neg (by decide : ¬ (2 : Int32) = 1), if_pos (rfl : (2 : Int32) = 2), if_pos hi, if_pos q], h⟩
      · have nq : ¬ M 65 p = -1 := by
          obtain ⟨j, hj, ej⟩ := q.1
          rw [ej]; intro w
          rw [i_eq, nI_toInt (by omega)] at w
          have : (-1 : Int32).toInt = -1 := rfl
          omega
        exact ⟨M 66 p, x, C, M, J, by rw [f1, if_neg (by decide : ¬ (2 : Int32) = 0), if_neg (by decide : ¬ (2 : Int32) = 1), if_pos (rfl : (2 : Int32) = 2), if_pos hk, g.2.1, if_neg nq, if_pos hk, q.2.2.2.2.1], by rw [f2, if_neg (by decide : ¬ (2 : Int32) = 0), if_neg (by decide : ¬ (2 : Int32) = 1), if_pos (rfl : (2 : Int32) = 2), if_pos hi, if_neg nq, if_pos hi], h⟩
    · exact ⟨-1, x, C, M, J, by rw [f1, if_neg hw.1, if_neg hw.2.1, if_neg hw.2.2], by rw [f2, if_neg hw.1, if_neg hw.2.1, if_neg hw.2.2], h⟩
end API2

