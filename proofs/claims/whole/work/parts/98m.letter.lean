/-! letter -/
theorem e5_ix : ∀ (w : List Nat) (k : Nat), (∀ a ∈ w, 1 ≤ a ∧ a ≤ 26) → e5 w / 32 ^ k % 32 = w.getD k 0 := by
  intro w
  induction w with
  | nil => intro k _; show 0 / 32 ^ k % 32 = _
           rw [Nat.zero_div]; rfl
  | cons a w ih =>
    intro k h
    have h1 := h a (List.mem_cons_self ..)
    have e : e5 (a :: w) = a + 32 * e5 w := rfl
    cases k with
    | zero => show (a + 32 * e5 w) / 1 % 32 = a
              omega
    | succ k =>
      have h2 := ih k (fun b hb => h b (List.mem_cons_of_mem _ hb))
      have e2 : (32 : Nat) ^ (k + 1) = 32 * 32 ^ k := by rw [Nat.pow_succ, Nat.mul_comm]
      have e3 : (a + 32 * e5 w) / 32 = e5 w := by omega
      rw [e, e2, ← Nat.div_div_eq_div_mul, e3]
      exact h2
theorem e8r_ix : ∀ (w : List Nat) (k : Nat), (∀ a ∈ w, 1 ≤ a ∧ a ≤ 26) → k < w.length → e8r w / 256 ^ k % 256 = 96 + w.getD k 0 := by
  intro w
  induction w with
  | nil => intro k _ h; exact absurd h (Nat.not_lt_zero _)
  | cons a w ih =>
    intro k h hk
    have h1 := h a (List.mem_cons_self ..)
    have e : e8r (a :: w) = 256 * e8r w + (96 + a) := rfl
    cases k with
    | zero => show (256 * e8r w + (96 + a)) / 1 % 256 = 96 + a
              omega
    | succ k =>
      have h2 := ih k (fun b hb => h b (List.mem_cons_of_mem _ hb)) (Nat.lt_of_succ_lt_succ hk)
      have e2 : (256 : Nat) ^ (k + 1) = 256 * 256 ^ k := by rw [Nat.pow_succ, Nat.mul_comm]
      have e3 : (256 * e8r w + (96 + a)) / 256 = e8r w := by omega
      rw [e, e2, ← Nat.div_div_eq_div_mul, e3]
      exact h2
theorem sh63 : ∀ m, m < 64 → ((Int32.toInt64 (nI m)).toUInt64 &&& Int64.toUInt64 63) = UInt64.ofNat m := by decide +kernel
theorem u64_sh {a m : Nat} (ha : a < 2 ^ 48) (hm : m < 64) : (Int64.toUInt64 (Int64.ofNat a) >>> ((Int32.toInt64 (nI m)).toUInt64 &&& Int64.toUInt64 63)).toInt64 = Int64.ofNat (a / 2 ^ m) := by
  rw [sh63 m hm]
  apply Int64.toBitVec_inj.mp
  apply BitVec.eq_of_toNat_eq
  have e1 : (Int64.toUInt64 (Int64.ofNat a) >>> UInt64.ofNat m).toInt64.toBitVec.toNat = (Int64.toUInt64 (Int64.ofNat a) >>> UInt64.ofNat m).toNat := rfl
  have e2 : (Int64.toUInt64 (Int64.ofNat a)).toNat = a % 2 ^ 64 := BitVec.toNat_ofNat ..
  have e3 : (UInt64.ofNat m).toNat = m % 2 ^ 64 := BitVec.toNat_ofNat ..
  have e4 : (Int64.ofNat (a / 2 ^ m)).toBitVec.toNat = a / 2 ^ m % 2 ^ 64 := BitVec.toNat_ofNat ..
  have e5' : a / 2 ^ m ≤ a := Nat.div_le_self ..
  rw [e1, e4, UInt64.toNat_shiftRight, e2, e3, Nat.shiftRight_eq_div_pow, Nat.mod_eq_of_lt (by omega : a < 2 ^ 64), Nat.mod_eq_of_lt (by omega : m < 2 ^ 64), Nat.mod_eq_of_lt (by omega : m < 64), Nat.mod_eq_of_lt (by omega : a / 2 ^ m < 2 ^ 64)]
theorem i64_255 {b : Nat} (hb : b < 2 ^ 48) : Int64.toInt32 (Int64.ofNat b &&& 255) = nI (b % 256) := by
  have e : Int64.ofNat b &&& 255 = Int64.ofNat (b % 256) := by
    apply Int64.toBitVec_inj.mp
    apply BitVec.eq_of_toNat_eq
    have e1 : (Int64.ofNat b &&& 255).toBitVec = BitVec.ofNat 64 b &&& BitVec.ofNat 64 255 := rfl
    have e2 : (Int64.ofNat (b % 256)).toBitVec = BitVec.ofNat 64 (b % 256) := rfl
    rw [e1, e2, BitVec.toNat_and, BitVec.toNat_ofNat, BitVec.toNat_ofNat, BitVec.toNat_ofNat, Nat.mod_eq_of_lt (by omega : b < 2 ^ 64), Nat.mod_eq_of_lt (by omega : (255 : Nat) < 2 ^ 64), Nat.mod_eq_of_lt (by omega : b % 256 < 2 ^ 64)]
    exact Nat.and_two_pow_sub_one_eq_mod b 8
  have k : ∀ c, c < 256 → Int64.toInt32 (Int64.ofNat c) = nI c := by decide +kernel
  rw [e]; exact k _ (Nat.mod_lt _ (by omega))
theorem e8r_b {v : List Nat} (h : ∀ a ∈ v, 1 ≤ a ∧ a ≤ 26) (hl : v.length ≤ 6) : e8r v < 2 ^ 48 := by
  have e := e8_r v.reverse
  rw [List.reverse_reverse] at e
  rw [← e]
  exact e8_b (fun a ha => h a (List.mem_reverse.mp ha)) (by rw [List.length_reverse]; exact hl)
section LET
variable {x : Bool} {C M : tI} {J Jc : tJ}
/-- the loop that counts the letters -/
theorem m_let (d : Nat) (v1 v2 : Value) (x3 : Int32) (y4 : Int64) : ∀ (v : List Nat) (c : Nat), (∀ a ∈ v, 1 ≤ a ∧ a ≤ 26) → v.length ≤ 6 → c + v.length < 100 → am_ev (d + 1) 222 39 [.ref 0, v1, v2, .int x3, .long y4, am_un, .int (nI c), .long (Int64.ofNat (e8r v)), am_un] [] (M, J, tm_R, tm_S, 77, 21637) = am_ev (d + 1) 222 39 [.ref 0, v1, v2, .int x3, .long y4, am_un, .int (nI (c + v.length)), .long (Int64.ofNat 0), am_un] [] (M, J, tm_R, tm_S, 77, 21637) := by
  intro v
  induction v with
  | nil => intro c _ _ _; rfl
  | cons a v ih =>
    intro c h hl hc
    have h1 := h a (List.mem_cons_self ..)
    have hb := e8r_b h hl
    have e : e8r (a :: v) = 256 * e8r v + (96 + a) := rfl
    have hl' : (a :: v).length = v.length + 1 := rfl
    have hne : ¬ lg_cmp (Int64.ofNat (e8r (a :: v))) 0 = 0 := fun z => by
      have := i64_n (by omega) (by omega : 0 < 2 ^ 63) ((lg_eq _ _).mp z)
      omega
    have e2 : e8r (a :: v) / 2 ^ 8 = e8r v := by rw [e]; omega
    have e3 : ((Int64.toUInt64 (Int64.ofNat (e8r (a :: v)))) >>> ((Int32.toInt64 8).toUInt64 &&& Int64.toUInt64 63)).toInt64 = Int64.ofNat (e8r v) := by
      rw [← e2]; exact u64_sh hb (by omega : 8 < 64)
    rw [b222_39, if_neg hne, e3, nI_1, ih (c + 1) (fun b hb => h b (List.mem_cons_of_mem _ hb)) (by omega) (by omega), hl', Nat.add_right_comm, Nat.add_assoc]
theorem getD_rev (w : List Nat) {k : Nat} (hk : k < w.length) : w.reverse.getD (w.length - 1 - k) 0 = w.getD k 0 := by
  rw [List.getD_eq_getElem?_getD, List.getD_eq_getElem?_getD, List.getElem?_reverse (by omega), show w.length - 1 - (w.length - 1 - k) = k by omega]
theorem k_letter (h : Rl x C M J) (a b c : Int32) : Lk 115 222 [.int a, .int b, .int c] x C M Jc J := by
  have hx := xb1 x
  have hy := tc_P4 x
  rcases i_cases a (n := 5) (by omega) with q | ⟨kd, hkd, rfl⟩
  · refine ⟨-1, x, C, M, J, ?_, ?_, h⟩
    · rw [b115_0]
      by_cases h0 : a < 0
      · rw [if_pos h0]
      · have h4 : (4 : Int32) < a := by
          have := q.resolve_left h0
          rw [i_le] at this
          rw [i_lt]
          have e5 : (nI 5).toInt = 5 := by decide +kernel
          have e4 : (4 : Int32).toInt = 4 := by decide +kernel
          omega
        rw [if_neg h0, if_pos h4]
    · rw [b222_0, m_is0 _ _ _ ((by decide +kernel : nI 5 - 1 = (4 : Int32)) ▸ nin (n := 5) (by omega) q), am_call_s, am_toL, b222_6, if_pos rfl]
  · have i5 : am_in (nI kd) 5 := nI_in (by omega) (by omega)
    have m5 : am_G (am_ev 99) 157 [.int (nI kd), .int 0, .int 4] (M, J, tm_R, tm_S, 77, 21637) = some (some (.int 1), (M, J, tm_R, tm_S, 77, 21637)) := m_is1 _ _ _ ((by decide +kernel : nI 5 - 1 = (4 : Int32)) ▸ (is_in (nI kd) (n := 5) (by omega)).mpr ⟨kd, hkd, rfl⟩)
    have cA : am_G (am_ev 100) 115 [.ref 0, .int (nI kd), .int b, .int c] (C, Jc, (tc_R x), tc_S, 289, 11479) = am_call (am_G (am_ev 99) 56 [.ref (tc_P x), .int (nI kd), .int b] (C, Jc, (tc_R x), tc_S, 289, 11479)) (fun r M => am_ev 100 115 21 [.ref 0, .int (nI kd), .int b, .int c] (r.toList ++ []) M) := by
      rw [b115_0, if_neg (nI_pos (by omega)), if_neg (nltL (c := 4) 4 rfl (by omega) (by omega))]
    have mA : am_G (am_ev 100) 222 [.ref 0, .int (nI kd), .int b, .int c] (M, J, tm_R, tm_S, 77, 21637) = am_call (am_G (am_ev 99) 210 [.ref 0, .int (nI kd), .int b] (M, J, tm_R, tm_S, 77, 21637)) (fun r M => am_ev 100 222 15 [.ref 0, .int (nI kd), .int b, .int c, am_un, am_un, am_un, am_un, am_un] (r.toList ++ []) M) := by
      rw [b222_0, m5, am_call_s, am_toL, b222_6, if_neg (by decide : ¬ (1 : Int32) = 0)]
    rcases h.kind (Jc := Jc) hkd b 98 97 with ⟨k1, k2⟩ | ⟨k, hk, rfl, hk8, k1, k2⟩
    · exact ⟨-1, x, C, M, J, by rw [cA, k1, am_call_s, am_toL, b115_21, if_pos rfl], by rw [mA, k2, am_call_s, am_toL, b222_15, if_pos rfl], h⟩
    · obtain ⟨w, hw, e1, e2⟩ := h.P.2.1.k hkd hk
      have h8 := kx8 kd
      have ck : Int32.toNatClampNeg (nI kd) = kd := nI_clamp (by omega)
      have cb : Int32.toNatClampNeg (nI k) = k := nI_clamp (by omega)
      have hts := ts_nm x kd hkd
      have hkk : (tc_S (tc_P x + 3 + kd)).1 = 20 ∧ tc_P x + 3 + kd < 289 := ⟨by rw [hts], by omega⟩
      have hb5 := e5_b hw.2.2 hw.2.1
      have hb8 := e8_b hw.2.2 hw.2.1
      have hwr : ∀ a ∈ w.reverse, 1 ≤ a ∧ a ≤ 26 := fun a ha => hw.2.2 a (List.mem_reverse.mp ha)
      have hlr : w.reverse.length = w.length := List.length_reverse
      -- the model up to the end of its loop
      have mB : am_G (am_ev 100) 222 [.ref 0, .int (nI kd), .int (nI k), .int c] (M, J, tm_R, tm_S, 77, 21637) = am_ev 100 222 39 [.ref 0, .int (nI kd), .int (nI k), .int c, .long (Int64.ofNat (e8 w)), am_un, .int (nI w.length), .long (Int64.ofNat 0), am_un] [] (M, J, tm_R, tm_S, 77, 21637) := by
        rw [mA, k2, am_call_s, am_toL, b222_15, if_neg (by decide : ¬ (1 : Int32) = 0), h.B, m_nameOf _ _ _ hx hkd hk8, e2, am_call_s, am_toL, b222_30]
        have := m_let (M := M) (J := J) 99 (.int (nI kd)) (.int (nI k)) c (Int64.ofNat (e8 w)) w.reverse 0 hwr (by rw [hlr]; exact hw.2.1) (by rw [hlr]; have := hw.2.1; omega)
        rw [← e8_r, hlr, Nat.zero_add] at this
        exact this
      have z0 : lg_cmp (Int64.ofNat 0) 0 = 0 := by decide +kernel
      have cB : am_G (am_ev 100) 115 [.ref 0, .int (nI kd), .int (nI k), .int c] (C, Jc, (tc_R x), tc_S, 289, 11479) = (if c < 0 then some (some (.int (-1)), (C, Jc, (tc_R x), tc_S, 289, 11479)) else if c < 6 then am_call (am_G (am_ev 99) 72 [.int (nI (e5 w)), .int c] (C, Jc, (tc_R x), tc_S, 289, 11479)) (fun r M => am_ev 100 115 54 [.ref 0, .int (nI kd), .int (nI k), .int c] (r.toList ++ []) M) else some (some (.int (-1)), (C, Jc, (tc_R x), tc_S, 289, 11479))) := by
        rw [cA, k1, am_call_s, am_toL, b115_21, if_neg (by decide : ¬ (1 : Int32) = 0), if_pos i5]
        (simp only [ck, cb])
        rw [if_pos hkk, hts, if_pos (nI_in (by omega) (by omega)), e1]
      by_cases c0 : c < 0
      · exact ⟨-1, x, C, M, J, by rw [cB, if_pos c0], by rw [mB, b222_39, if_pos z0, if_pos c0], h⟩
      · obtain ⟨i, hi, rfl⟩ := nI_of c0
        have hl6 := hw.2.1
        by_cases i6 : i < 6
        · have hsh : nI (e5 w) >>> (((5 : Int32) * nI i) &&& 31) &&& 31 = nI (w.getD i 0) := by
            have f1 : (5 : Int32) * nI i = nI (5 * i) := nI_mul 5 i
            have f2 : nI (e5 w / 2 ^ (5 * i)) &&& 31 = nI (e5 w / 2 ^ (5 * i) % 32) := by
              have : nI (e5 w / 2 ^ (5 * i)) &&& nI 31 = nI (e5 w / 2 ^ (5 * i) &&& 31) := nI_and _ _
              refine this.trans ?_
              rw [show e5 w / 2 ^ (5 * i) &&& 31 = e5 w / 2 ^ (5 * i) % 32 from Nat.and_two_pow_sub_one_eq_mod _ 5]
            rw [f1, nI_shr _ _ (by omega) (by omega), f2]
            have f3 : (2 : Nat) ^ (5 * i) = 32 ^ i := by rw [Nat.pow_mul]
            rw [f3, e5_ix w i hw.2.2]
          have hlt6 : nI i < (6 : Int32) := ltR (c := 6) 6 rfl i6 (by omega)
          by_cases il : i < w.length
          · have hg : 1 ≤ w.getD i 0 ∧ w.getD i 0 ≤ 26 := by
              have : w.getD i 0 = w[i] := by rw [List.getD_eq_getElem?_getD, List.getElem?_eq_getElem il]; rfl
              rw [this]
              exact hw.2.2 _ (List.getElem_mem il)
            refine ⟨nI (96 + w.getD i 0), x, C, M, J, ?_, ?_, h⟩
            · rw [cB, if_neg c0, if_pos hlt6, b72_0, hsh, if_neg (nI_ne0 (by omega) (by omega)), am_call_s, am_toL, b115_54, show (96 : Int32) + nI (w.getD i 0) = nI (96 + w.getD i 0) from nI_add 96 _]
            · have g1 : (8 : Int32) * ((nI w.length - 1) - nI i) = nI (8 * (w.length - 1 - i)) := by
                rw [nI_m1 _ (by omega), nI_sub (by omega) (by omega)]; exact nI_mul 8 _
              have g2 : (2 : Nat) ^ (8 * (w.length - 1 - i)) = 256 ^ (w.length - 1 - i) := by rw [Nat.pow_mul]
              have g3 : e8 w / 256 ^ (w.length - 1 - i) % 256 = 96 + w.getD i 0 := by
                rw [e8_r, e8r_ix w.reverse _ hwr (by rw [hlr]; omega), getD_rev w il]
              rw [mB, b222_39, if_pos z0, if_neg c0, if_pos (nI_lt il (by omega)), g1, u64_sh hb8 (by omega), i64_255 (Nat.lt_of_le_of_lt (Nat.div_le_self ..) hb8), g2, g3]
          · have hg : w.getD i 0 = 0 := by rw [List.getD_eq_getElem?_getD, List.getElem?_eq_none (by omega)]; rfl
            refine ⟨-1, x, C, M, J, ?_, ?_, h⟩
            · rw [cB, if_neg c0, if_pos hlt6, b72_0, hsh, hg, if_pos (show nI 0 = (0 : Int32) from rfl), am_call_s, am_toL, b115_54]
            · rw [mB, b222_39, if_pos z0, if_neg c0, if_neg (nI_nlt (by omega) (by omega))]
        · refine ⟨-1, x, C, M, J, ?_, ?_, h⟩
          · rw [cB, if_neg c0, if_neg (nltR (c := 6) 6 rfl (by omega) (by omega))]
          · rw [mB, b222_39, if_pos z0, if_neg c0, if_neg (nI_nlt (by omega) (by omega))]
end LET
