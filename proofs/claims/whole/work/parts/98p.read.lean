/-! READING on both sides, from the relation -/
section RDB
variable {x y : Bool} {C M C' M' : tI} {J J' Jc : tJ} {N : Nat → Nat}
/-- the model's memory as it begins to read -/
def mI (M : tI) (b : Nat) : tI := am_u2 (am_u2 (am_u2 (am_u2 (am_u2 (am_u2 (am_u2 (am_u2 (am_u2 (am_u2 (am_u2 (am_u2 (am_u2 (am_u2 (am_u2 (am_u2 (am_u2 (am_u2 (am_u2 (am_u2 M 0 2 (M 0 1)) 0 1 0) 0 5 0) 0 8 0) 0 9 (-1)) 0 51 (nI b)) 2 b 0) 6 b 0) 11 b 0) 14 b 0) 18 b 0) 20 b 0) 22 b 0) 26 b 0) 30 b 100) 31 b 0) 32 b 0) 33 b 999) 34 b 0) 0 50 0
theorem mI_0 (M : tI) (b : Nat) : mI M b 0 2 = M 0 1 ∧ mI M b 0 1 = 0 ∧ mI M b 0 5 = 0 ∧ mI M b 0 8 = 0 ∧ mI M b 0 9 = -1 ∧ mI M b 0 51 = nI b ∧ mI M b 0 50 = 0 := by
  refine ⟨?_, ?_, ?_, ?_, ?_, ?_, ?_⟩ <;> (unfold mI; simp [am_u2])
theorem mI_c (M : tI) (b : Nat) : (∀ q, q < 9 → mI M b (cqq q) b = 0) ∧ mI M b 30 b = 100 ∧ mI M b 31 b = 0 ∧ mI M b 32 b = 0 ∧ mI M b 33 b = 999 := by
  refine ⟨fun q hq => ?_, ?_, ?_, ?_, ?_⟩
  · rcases (by omega : q = 0 ∨ q = 1 ∨ q = 2 ∨ q = 3 ∨ q = 4 ∨ q = 5 ∨ q = 6 ∨ q = 7 ∨ q = 8) with rfl | rfl | rfl | rfl | rfl | rfl | rfl | rfl | rfl <;> (unfold mI cqq; simp [am_u2])
  all_goals (unfold mI; simp [am_u2])
theorem mI_f (M : tI) (b : Nat) {a j : Nat} (h0 : a = 0 → j ≠ 1 ∧ j ≠ 2 ∧ j ≠ 5 ∧ j ≠ 8 ∧ j ≠ 9 ∧ j ≠ 50 ∧ j ≠ 51) (h1 : 2 ≤ a → a ≤ 38 → sdd a = 1 → j ≠ b) : mI M b a j = M a j := by
  have key : ∀ c, 2 ≤ c → c ≤ 38 → sdd c = 1 → a ≠ c ∨ j ≠ b := fun c c1 c2 c3 => by
    by_cases z : a = c
    · subst z; exact Or.inr (h1 c1 c2 c3)
    · exact Or.inl z
  unfold mI
  rw [fr1 (by omega), fr1 (key 34 (by omega) (by omega) rfl), fr1 (key 33 (by omega) (by omega) rfl), fr1 (key 32 (by omega) (by omega) rfl), fr1 (key 31 (by omega) (by omega) rfl), fr1 (key 30 (by omega) (by omega) rfl), fr1 (key 26 (by omega) (by omega) rfl), fr1 (key 22 (by omega) (by omega) rfl), fr1 (key 20 (by omega) (by omega) rfl), fr1 (key 18 (by omega) (by omega) rfl), fr1 (key 14 (by omega) (by omega) rfl), fr1 (key 11 (by omega) (by omega) rfl), fr1 (key 6 (by omega) (by omega) rfl), fr1 (key 2 (by omega) (by omega) rfl), fr1 (by omega), fr1 (by omega), fr1 (by omega), fr1 (by omega), fr1 (by omega), fr1 (by omega)]
theorem PL.zero (c1 : ∀ q, q < 9 → C (tc_P (!x) + 1) q = 0) (c2 : ∀ s b, s < 6 → b < 8 → C (tc_P (!x) + 15 + s) b = 0) (c3 : ∀ s b, s < 6 → b < 6 → C (tc_P (!x) + 22 + s) b = 1) (c4 : C (tc_P (!x) + 33) 2 = 0) (c5 : C (tc_P (!x)) 16 = 100) (c6 : C (tc_P (!x)) 17 = 0) (c7 : C (tc_P (!x)) 18 = 0) (c8 : C (tc_P (!x)) 19 = 999) (m1 : ∀ q, q < 9 → M (cqq q) (xb (!x)) = 0) (m2 : M 30 (xb (!x)) = 100) (m3 : M 31 (xb (!x)) = 0) (m4 : M 32 (xb (!x)) = 0) (m5 : M 33 (xb (!x)) = 999) (m6 : M 0 50 = 0) (m7 : M 0 51 = nI (xb (!x))) : PL x (fun _ => 0) 0 0 C M J := by
  refine ⟨fun q hq => ⟨c1 q hq, m1 q hq, Nat.zero_le _⟩, ⟨fun q k _ hk => absurd hk (Nat.not_lt_zero _), fun k hk => absurd hk (Nat.not_lt_zero _), fun k hk => absurd hk (Nat.not_lt_zero _), fun k hk => absurd hk (Nat.not_lt_zero _), ⟨fun s q hs hq => c2 s q hs hq, fun k hk => absurd hk (Nat.not_lt_zero _), fun k l _ hl => absurd hl (Nat.not_lt_zero _)⟩, ⟨fun a c ha hc _ => c3 a c ha hc, fun a c ha => absurd ha (Nat.not_lt_zero _)⟩, fun k hk => absurd hk (Nat.not_lt_zero _), fun k hk => absurd hk (Nat.not_lt_zero _), ⟨100, 0, 0, 999, c5, c6, c7, c8, m2, m3, m4, m5, by omega, by omega, by omega, by omega, by omega⟩, ⟨c4, m6, fun z => absurd z (Nat.lt_irrefl 0), fun k hk => absurd hk (Nat.not_lt_zero _)⟩⟩, m7⟩
theorem rd_both (hl : LawOK) (h : Rl x C M J) : ∃ C' M' J' r wv, am_G (am_ev 99) 74 [.ref 1] (C, Jc, (tc_R x), tc_S, 289, 11479) = some (some (.int r), (C', Jc, (tc_R x), tc_S, 289, 11479)) ∧ am_G (am_ev 100) 201 [.ref 0] (M, J, tm_R, tm_S, 77, 21637) = am_ev 100 201 206 [.ref 0, .int wv] [] (M', J', tm_R, tm_S, 77, 21637) ∧ Rdd x C (mI M (xb (!x))) J C' M' J' r wv := by
  have hx := xb1 x
  have hb1 := xb1 (!x)
  have hxb := xb_not x
  have hy := tc_P4 (!x)
  obtain ⟨t1, t2, t3⟩ := h.T
  have hn := t2.cl (by omega)
  have en := t2.eq (by omega)
  obtain ⟨C1, k1, k2, k3, k4, k5, k6, k7, k8, k9, k10⟩ := c_clear (C := C) (Jc := Jc) (x := x) (!x) 96
  have e12 : (1 : Int32) - M 0 12 = nI (xb (!x)) := by
    rw [h.B, hxb]; exact nI_sub (a := 1) (by omega) (by omega)
  have hin : am_in (nI (xb (!x))) 2 := nI_in (by omega) (by omega)
  have cb : Int32.toNatClampNeg (nI (xb (!x))) = xb (!x) := nI_clamp (by omega)
  obtain ⟨i1, i2, i3, i4, i5, i6, i7⟩ := mI_0 M (xb (!x))
  obtain ⟨j1, j2, j3, j4, j5⟩ := mI_c M (xb (!x))
  -- the class as it begins
  have cI : ∀ b, b ≠ 3 → b ≠ 4 → b ≠ 7 → b ≠ 8 → am_u2 (am_u2 (am_u2 (am_u2 C1 1 3 0) 1 4 0) 1 7 0) 1 8 (-1) 1 b = C 1 b := fun b q1 q2 q3 q4 => by
    rw [u2_p q4, u2_p q3, u2_p q2, u2_p q1, k10 1 b (by omega)]
  have cO : ∀ a b, a ≠ 1 → am_u2 (am_u2 (am_u2 (am_u2 C1 1 3 0) 1 4 0) 1 7 0) 1 8 (-1) a b = C1 a b := fun a b q => by
    rw [u2_c q, u2_c q, u2_c q, u2_c q]
  have rc0 : RC (!x) C (am_u2 (am_u2 (am_u2 (am_u2 C1 1 3 0) 1 4 0) 1 7 0) 1 8 (-1)) := fun a b z1 z2 => by
    by_cases za : a = 1
    · subst za; exact cI b (by omega) (by omega) (by omega) (by omega)
    · rw [cO a b za]; exact k10 a b z2
  have mT : ∀ j, mI M (xb (!x)) 1 j = M 1 j := fun j => mI_f M _ (by omega) (by omega)
  have hPv : Pv (fun j => Int32.toNatClampNeg (M 1 j)) (Int32.toNatClampNeg (M 0 1)) (am_u2 (am_u2 (am_u2 (am_u2 C1 1 3 0) 1 4 0) 1 7 0) 1 8 (-1)) (mI M (xb (!x))) 0 0 := by
    refine ⟨⟨⟨?_, ?_, hn, fun j hj => ⟨?_, ?_, ?_⟩⟩, ?_, i4, u2_s, i5, ?_⟩, Nat.zero_le _, ?_, by omega, ?_, i3, ?_⟩
    · rw [cI 2 (by omega) (by omega) (by omega) (by omega), t1]; exact en
    · rw [i1]; exact en
    · have := (t3 j (by omega)).2.eq (by omega)
      rw [cO 3 j (by omega), k10 3 j (by omega), (t3 j (by omega)).1]; exact this
    · have := (t3 j (by omega)).2.eq (by omega)
      rw [mT]; exact this
    · exact (t3 j (by omega)).2.cl (by omega)
    · rw [u2_p (by omega), u2_s]
    · exact h.Ow.fr (fun b => by rw [cO 2 b (by omega)]; exact k10 2 b (by omega))
    · rw [u2_p (by omega), u2_p (by omega), u2_s]; rfl
    · rw [u2_p (by omega), u2_p (by omega), u2_p (by omega), u2_s]; rfl
    · exact ⟨fun z => absurd z.1 (Nat.lt_irrefl 0), fun z => by omega⟩
  have hPL : PL x (fun _ => 0) 0 0 (am_u2 (am_u2 (am_u2 (am_u2 C1 1 3 0) 1 4 0) 1 7 0) 1 8 (-1)) (mI M (xb (!x))) J := PL.zero (fun q hq => by rw [cO _ _ (by omega)]; exact k2 q hq) (fun s b hs hb => by rw [cO _ _ (by omega)]; exact k3 s b hs hb) (fun s b hs hb => by rw [cO _ _ (by omega)]; exact k4 s b hs hb) (by rw [cO _ _ (by omega)]; exact k5) (by rw [cO _ _ (by omega)]; exact k6) (by rw [cO _ _ (by omega)]; exact k7) (by rw [cO _ _ (by omega)]; exact k8) (by rw [cO _ _ (by omega)]; exact k9) j1 j2 j3 j4 j5 i7 i6
  obtain ⟨C2, M2, J2, a1, a2, a3, a4, a5, a6⟩ := hPv.adv (x := x) (J := J) (Jc := Jc) 96 97
  have c0 : am_G (am_ev 99) 74 [.ref 1] (C, Jc, (tc_R x), tc_S, 289, 11479) = am_ev 99 74 33 [.ref 1, .int 0] [] (C2, Jc, (tc_R x), tc_S, 289, 11479) := by
    rw [b74_0, k1, am_call_s, am_toN, b74_7, a1, am_call_s, am_toN, b74_31]
  have m0 : am_G (am_ev 100) 201 [.ref 0] (M, J, tm_R, tm_S, 77, 21637) = am_ev 100 201 182 [.ref 0, .int 0] [] (M2, J2, tm_R, tm_S, 77, 21637) := by
    rw [b201_0, e12]
    simp only [if_pos hin, cb]
    refine (congrArg (fun z => am_call z _) a2).trans ?_
    rw [am_call_s, am_toN]
  have pl2 := hPL.tf a3 a4 a5
  rcases a6 with ⟨p', q', k', v', w', g, _⟩ | ⟨bd, _⟩
  · obtain ⟨C', M', J', r, wv, b1, b2, b3, b4, b5, b6⟩ := rd_loop (Jc := Jc) (x := x) hl 38 87 (Int32.toNatClampNeg (M 0 1) - p') C2 M2 J2 p' q' k' v' w' _ 0 0 0 (Nat.le_refl _) g pl2 (by omega) (by omega) (by omega)
    exact ⟨C', M', J', r, wv, c0.trans b1, m0.trans b2, (rc0.tr a3.rc).tr b3, a4.rm.tr b4, a5.rj.tr b5, b6⟩
  · obtain ⟨C', b1, b2, b3, b4⟩ := rd_bad (Jc := Jc) (x := x) bd (c := 0) (by omega) 38
    refine ⟨C', M2, J2, -1, 0, c0.trans b1, m0.trans ?_, (rc0.tr a3.rc).tr b2.rc, a4.rm, a5.rj, Or.inr ⟨rfl, b3.fin b4⟩⟩
    rw [b201_182, if_neg bd.m8]
end RDB
