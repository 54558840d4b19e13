/-! packing in the class -/
section PC
variable {x : Bool} {C : tI} {J : tJ} {W : Nat → Nat} {n sp sh : Nat}
theorem bit_and {S i : Nat} : S &&& 2 ^ i = 0 ↔ S.testBit i = false := by
  constructor
  · intro h
    have c := congrArg (fun z => Nat.testBit z i) h
    try dsimp only at c
    rw [Nat.testBit_and, pw_bit, decide_eq_true rfl, Nat.zero_testBit, Bool.and_true] at c
    exact c
  · intro h
    refine Nat.eq_of_testBit_eq (fun j => ?_)
    rw [Nat.testBit_and, pw_bit, Nat.zero_testBit]
    by_cases e : i = j
    · subst e; rw [h]; rfl
    · rw [decide_eq_false e, Bool.and_false]
theorem nI_pw {i : Nat} (h : i < 32) : (1 : Int32) <<< (nI i &&& 31) = nI (2 ^ i) := by
  have := nI_shl 1 i h
  rw [Nat.one_mul] at this
  exact this
theorem bit_i {S i : Nat} (hS : S < 4096) (hi : i < 32) : (nI S &&& ((1 : Int32) <<< (nI i &&& 31)) = 0) ↔ S.testBit i = false := by
  have le : S &&& 2 ^ i ≤ S := Nat.and_le_left
  rw [nI_pw hi, nI_and, ← bit_and]
  constructor
  · intro h
    exact nI_inj (b := 0) (by omega) (by omega) h
  · intro h; rw [h]; rfl
theorem nI_and1023 (a : Nat) : nI a &&& 1023 = nI (a % 1024) := by
  have : (1023 : Int32) = nI 1023 := rfl
  rw [this, nI_and, show 1023 = 2 ^ 10 - 1 from rfl, Nat.and_two_pow_sub_one_eq_mod]
theorem c_with (d : Nat) (C : tI) (J : tJ) (x : Bool) {v w : Nat} (hv : v < 2 ^ 20) (hw : w < 2 ^ 20) (s4 : sh ≤ 400) (p9 : sp ≤ 9) : am_G (am_ev (d + 1)) 53 [.int (nI v), .int (nI w), .int (nI sh), .int (nI sp)] (C, J, (tc_R x), tc_S, 289, 11479) = some (some (.int (nI (wth sp sh v w))), (C, J, (tc_R x), tc_S, 289, 11479)) := by
  have e1 : nI v >>> ((10 : Int32) &&& 31) = nI (v / 1024) := nI_shr v 10 (by omega) (by omega)
  have e2 : (nI (v / 1024) + 1) <<< ((10 : Int32) &&& 31) = nI (1024 * (v / 1024 + 1)) := by
    rw [nI_1, Nat.mul_comm]; exact nI_shl _ 10 (by omega)
  unfold wth
  rw [b53_0, e1, e2, nI_and1023, nI_add, nI_add, nI_add, nI_add, nI_add]
  by_cases q : v / 1024 = 0
  · rw [if_pos q, if_pos (show nI (v / 1024) ≤ 0 by rw [q]; decide)]
  · rw [if_neg q, if_neg (show ¬ nI (v / 1024) ≤ 0 from nI_ge (a := 0) (by omega) (by omega))]
    by_cases q2 : sh < v % 1024 + sp + w
    · rw [if_pos q2, if_pos (nI_lt q2 (by omega))]
    · rw [if_neg q2, if_neg (nI_nlt (by omega) (by omega))]
theorem dpR_b {S v : Nat} (s4 : sh ≤ 400) (n12 : n ≤ 12) (h : dpR W n sp sh S v) : v < 2 ^ 14 := by
  rcases h with ⟨_, rfl⟩ | ⟨_, ⟨c, f, rfl, hf, hc, hc2, _⟩, _⟩
  · omega
  · have := gS_b (w := fun _ => 1) (c := 1) (S := S) (fun _ => Nat.le_refl _) n
    omega
theorem c_best (d : Nat) (C : tI) (J : tJ) (x : Bool) {S : Nat} (n12 : n ≤ 12) (s4 : sh ≤ 400) (p9 : sp ≤ 9) (nz : S ≠ 0) (lS : S < 4096) (hS : ∀ j, S.testBit j = true → j < n) (hW : ∀ j, j < n → W j ≤ sh) (hw : ∀ j, j < n → C 281 j = nI (W j)) (hC : ∀ T, T < S → ∃ v, C 282 T = nI v ∧ dpR W n sp sh T v) : ∃ v, am_G (am_ev (d + 2)) 52 [.ref 280, .int (nI S), .int (nI n), .int (nI sh), .int (nI sp)] (C, J, (tc_R x), tc_S, 289, 11479) = some (some (.int (nI v)), (C, J, (tc_R x), tc_S, 289, 11479)) ∧ dpR W n sp sh S v := by
  have hD : ∀ i, S.testBit i = true → ∃ v, C 282 (S ^^^ 2 ^ i) = nI v ∧ dpR W n sp sh (S ^^^ 2 ^ i) v := fun i hi => hC _ (x_lt (sb_pw hi) (pw_nz i))
  have hD2 : ∀ i, S.testBit i = true → dpR W n sp sh (S ^^^ 2 ^ i) (Int32.toNatClampNeg (C 282 (S ^^^ 2 ^ i))) := fun i hi => by
    obtain ⟨v, e, r⟩ := hD i hi
    have := dpR_b s4 n12 r
    (rw [e]; (try simp (disch := omega) only [nI_clamp])); exact r
  have e0 : (nI n + 1) <<< ((10 : Int32) &&& 31) = nI (1024 * (n + 1)) := by
    rw [nI_1, Nat.mul_comm]; exact nI_shl _ 10 (by omega)
  have run : ∀ i, i ≤ n → ∃ v, am_ev (d + 2) 52 11 [.ref 280, .int (nI S), .int (nI n), .int (nI sh), .int (nI sp), .int (nI (1024 * (n + 1))), .int (nI 0)] [] (C, J, (tc_R x), tc_S, 289, 11479) = am_ev (d + 2) 52 11 [.ref 280, .int (nI S), .int (nI n), .int (nI sh), .int (nI sp), .int (nI v), .int (nI i)] [] (C, J, (tc_R x), tc_S, 289, 11479) ∧ v ≤ 1024 * (n + 1) ∧ (∀ j, j < i → S.testBit j = true → v ≤ wth sp sh (Int32.toNatClampNeg (C 282 (S ^^^ 2 ^ j))) (W j)) ∧ (v = 1024 * (n + 1) ∨ ∃ j, S.testBit j = true ∧ v = wth sp sh (Int32.toNatClampNeg (C 282 (S ^^^ 2 ^ j))) (W j)) := by
    intro i
    induction i with
    | zero => intro _; exact ⟨_, rfl, Nat.le_refl _, (fun j hj => by omega), Or.inl rfl⟩
    | succ i ih =>
      intro hi
      obtain ⟨v, a1, a2, a3, a4⟩ := ih (by omega)
      have st := b52_11 (d + 1) C J x (nI S) (nI n) (nI sh) (nI sp) (nI v) (nI i)
      rw [if_neg (nI_ge (by omega) (by omega))] at st
      have ci : (nI i).toNatClampNeg = i := nI_clamp (by omega)
      by_cases q : S.testBit i = true
      · obtain ⟨u, e, r⟩ := hD i q
        have ub := dpR_b s4 n12 r
        have xl := x_lt (sb_pw q) (pw_nz i)
        have cx : (nI (S ^^^ 2 ^ i)).toNatClampNeg = S ^^^ 2 ^ i := nI_clamp (by omega)
        have cu : Int32.toNatClampNeg (C 282 (S ^^^ 2 ^ i)) = u := by rw [e]; exact nI_clamp (by omega)
        have wl := hW i (by omega)
        rw [if_neg (fun w => by rw [bit_i lS (by omega)] at w; rw [w] at q; cases q), nI_pw (by omega), nI_xor, if_pos (nI_in (by omega) (by omega)), if_pos (nI_in (by omega) (by omega))] at st
        simp only [cx, ci] at st
        rw [e, hw i (by omega), c_with d C J x (by omega) (by omega) s4 p9, am_call_s, am_toL, b52_52, b290_0] at st
        have wb : wth sp sh u (W i) < 2 ^ 20 := by unfold wth; split <;> (try split) <;> omega
        by_cases q2 : wth sp sh u (W i) < v
        · rw [if_pos (nI_lt q2 (by omega)), am_call_s, am_toL, b52_55, nI_1] at st
          refine ⟨_, a1.trans st, by omega, fun j hj hb => ?_, Or.inr ⟨i, q, by rw [cu]⟩⟩
          by_cases z : j = i
          · subst z; rw [cu]; exact Nat.le_refl _
          · have := a3 j (by omega) hb; omega
        · rw [if_neg (nI_nlt (by omega) (by omega)), am_call_s, am_toL, b52_55, nI_1] at st
          refine ⟨_, a1.trans st, a2, fun j hj hb => ?_, a4⟩
          by_cases z : j = i
          · subst z; rw [cu]; omega
          · exact a3 j (by omega) hb
      · rw [if_pos ((bit_i lS (by omega)).mpr (Bool.eq_false_iff.mpr q)), nI_1] at st
        refine ⟨v, a1.trans st, a2, fun j hj hb => ?_, a4⟩
        by_cases z : j = i
        · subst z; exact absurd hb q
        · exact a3 j (by omega) hb
  obtain ⟨v, a1, a2, a3, a4⟩ := run n (Nat.le_refl _)
  refine ⟨v, ?_, dpR_s nz hS hW s4 hD2 (fun j hj => a3 j (hS j hj) hj) a4⟩
  rw [b52_0, e0]
  refine Eq.trans a1 ?_
  rw [b52_11, if_pos (Int32.le_refl _)]
theorem lt_bits {S n : Nat} (h : S < 2 ^ n) : ∀ j, S.testBit j = true → j < n := by
  intro j hj
  refine Classical.byContradiction (fun no => ?_)
  have : S < 2 ^ j := Nat.lt_of_lt_of_le h (Nat.pow_le_pow_right (by omega) (by omega))
  rw [Nat.testBit_lt_two_pow this] at hj
  cases hj
theorem c_few (d : Nat) (C : tI) (J : tJ) (x : Bool) (n1 : 1 ≤ n) (n12 : n ≤ 12) (s4 : sh ≤ 400) (p9 : sp ≤ 9) (hW9 : ∀ j, j < n → W j ≤ 9999) (hw : ∀ j, j < n → C 281 j = nI (W j)) : ((∃ j, j < n ∧ sh < W j) ∧ am_G (am_ev (d + 3)) 51 [.ref 280, .int (nI n), .int (nI sh), .int (nI sp)] (C, J, (tc_R x), tc_S, 289, 11479) = some (some (.int (-1)), (C, J, (tc_R x), tc_S, 289, 11479))) ∨ ((∀ j, j < n → W j ≤ sh) ∧ ∃ C' c, am_G (am_ev (d + 3)) 51 [.ref 280, .int (nI n), .int (nI sh), .int (nI sp)] (C, J, (tc_R x), tc_S, 289, 11479) = some (some (.int (nI c)), (C', J, (tc_R x), tc_S, 289, 11479)) ∧ (∀ a b, a ≠ 282 → C' a b = C a b) ∧ c < 2 ^ 14 ∧ opt (wS W sp) n (sh + sp) (2 ^ n - 1) c) := by
  have one : ∀ k i, i + k = n → (∀ j, j < i → W j ≤ sh) → ((∃ j, j < n ∧ sh < W j) ∧ am_ev (d + 3) 51 3 [.ref 280, .int (nI n), .int (nI sh), .int (nI sp), .int (nI i)] [] (C, J, (tc_R x), tc_S, 289, 11479) = some (some (.int (-1)), (C, J, (tc_R x), tc_S, 289, 11479))) ∨ ((∀ j, j < n → W j ≤ sh) ∧ am_ev (d + 3) 51 3 [.ref 280, .int (nI n), .int (nI sh), .int (nI sp), .int (nI i)] [] (C, J, (tc_R x), tc_S, 289, 11479) = am_ev (d + 3) 51 3 [.ref 280, .int (nI n), .int (nI sh), .int (nI sp), .int (nI n)] [] (C, J, (tc_R x), tc_S, 289, 11479)) := by
    intro k
    induction k with
    | zero => intro i hi h; obtain rfl : i = n := by omega
              exact Or.inr ⟨h, rfl⟩
    | succ k ih =>
      intro i hi h
      have st := b51_3 (d + 2) C J x (nI n) (nI sh) (nI sp) (nI i)
      have ci : (nI i).toNatClampNeg = i := nI_clamp (by omega)
      rw [if_neg (nI_ge (by omega) (by omega)), if_pos (nI_in (by omega) (by omega))] at st
      simp only [ci, nI_1] at st
      rw [hw i (by omega)] at st
      have w9 := hW9 i (by omega)
      by_cases q : W i ≤ sh
      · rw [if_pos (nI_le q (by omega))] at st
        rcases ih (i + 1) (by omega) (fun j hj => by
          by_cases z : j = i
          · subst z; exact q
          · exact h j (by omega)) with ⟨y1, y2⟩ | ⟨y1, y2⟩
        · exact Or.inl ⟨y1, st.trans y2⟩
        · exact Or.inr ⟨y1, st.trans y2⟩
      · rw [if_neg (nI_ge (by omega) (by omega))] at st
        exact Or.inl ⟨⟨i, by omega, by omega⟩, st⟩
  rw [b51_0]
  rcases one n 0 (by omega) (fun j hj => by omega) with ⟨y1, y2⟩ | ⟨y1, y2⟩
  · exact Or.inl ⟨y1, y2⟩
  · refine Or.inr ⟨y1, ?_⟩
    have p12 : 2 ^ n ≤ 4096 := Nat.pow_le_pow_right (n := 2) (by omega) n12
    have p2 : 2 ≤ 2 ^ n := Nat.pow_le_pow_right (n := 2) (i := 1) (j := n) (by omega) n1
    have c0 : Int32.toNatClampNeg 0 = 0 := rfl
    have two : ∀ k, k + 1 ≤ 2 ^ n → ∃ D, am_ev (d + 3) 51 38 [.ref 280, .int (nI n), .int (nI sh), .int (nI sp), .int (nI 1)] [] ((am_u2 C 282 0 0), J, (tc_R x), tc_S, 289, 11479) = am_ev (d + 3) 51 38 [.ref 280, .int (nI n), .int (nI sh), .int (nI sp), .int (nI (k + 1))] [] (D, J, (tc_R x), tc_S, 289, 11479) ∧ (∀ a b, a ≠ 282 → D a b = C a b) ∧ ∀ T, T < k + 1 → ∃ v, D 282 T = nI v ∧ dpR W n sp sh T v := by
      intro k
      induction k with
      | zero =>
        intro _
        refine ⟨_, rfl, fun a b q => u2_c q, fun T hT => ⟨0, ?_, Or.inl ⟨by omega, rfl⟩⟩⟩
        obtain rfl : T = 0 := by omega
        rw [u2_s]; rfl
      | succ k ih =>
        intro hk
        obtain ⟨D, a1, a2, a3⟩ := ih (by omega)
        obtain ⟨v, b1, b2⟩ := c_best d D J x (S := k + 1) n12 s4 p9 (by omega) (by omega) (lt_bits (by omega)) y1 (fun j hj => by rw [a2 _ _ (by omega)]; exact hw j hj) a3
        have ck : (nI (k + 1)).toNatClampNeg = k + 1 := nI_clamp (by omega)
        have st := b51_38 (d + 2) D J x (nI n) (nI sh) (nI sp) (nI (k + 1))
        rw [nI_pw (by omega), if_neg (nI_ge (by omega) (by omega)), b1, am_call_s, am_toL, b51_61, if_pos (nI_in (by omega) (by omega)), nI_1] at st
        simp only [ck] at st
        refine ⟨_, a1.trans st, fun a b q => by rw [u2_c q]; exact a2 a b q, fun T hT => ?_⟩
        by_cases z : T = k + 1
        · subst z; exact ⟨v, by rw [u2_s], b2⟩
        · rw [u2_p z]; exact a3 T (by omega)
    obtain ⟨D, a1, a2, a3⟩ := two (2 ^ n - 1) (by omega)
    rw [show 2 ^ n - 1 + 1 = 2 ^ n by omega] at a1 a3
    obtain ⟨v, b1, b2⟩ := a3 (2 ^ n - 1) (by omega)
    have vb := dpR_b s4 n12 b2
    have e1 : nI v >>> ((10 : Int32) &&& 31) = nI (v / 1024) := nI_shr v 10 (by omega) (by omega)
    have ep : nI (2 ^ n) - 1 = nI (2 ^ n - 1) := nI_sub (b := 1) (by omega) (by omega)
    have cf : (nI (2 ^ n - 1)).toNatClampNeg = 2 ^ n - 1 := nI_clamp (by omega)
    refine ⟨D, v / 1024, ?_, a2, by omega, dpR_o s4 (by omega) b2⟩
    refine Eq.trans y2 ?_
    rw [b51_3, if_pos (Int32.le_refl _), if_pos (by decide : am_in (0 : Int32) 4096)]
    simp only [c0]
    refine Eq.trans a1 ?_
    rw [b51_38, nI_pw (by omega), if_pos (Int32.le_refl _), ep, if_pos (nI_in (by omega) (by omega))]
    simp only [cf]
    rw [b1, e1]
end PC
