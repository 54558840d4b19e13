/-! pounds; wave, spread, turn -/
section PN2
variable {x : Bool} {C M : tI} {J Jc : tJ}
theorem Rl.piM (h : Rl x C M J) {w : Nat} (hw : w < 6) (d : Nat) : am_G (am_ev (d + 3)) 281 [.ref 0, .int (nI w)] (M, J, tm_R, tm_S, 77, 21637) = some (some (.int (pV M x w)), (M, J, tm_R, tm_S, 77, 21637)) := by
  have hx := xb1 x
  have nb := h.nbB.cl (by omega)
  have eb := h.nbB.eq (by omega)
  have nl := h.nlB.cl (by omega)
  have el := h.nlB.eq (by omega)
  have nt := h.ntB.cl (by omega)
  have et := h.ntB.eq (by omega)
  have b11 := h.n11.2.cl (by omega)
  -- batches
  have s1 : am_ev (d + 3) 281 4 [.ref 0, .int (nI w), .int 0, .int (nI 0)] [] (M, J, tm_R, tm_S, 77, 21637) = am_ev (d + 3) 281 33 [.ref 0, .int (nI w), .int (if w = 0 then pV M x 0 else 0), .int 0] [] (M, J, tm_R, tm_S, 77, 21637) := by
    by_cases z : w = 0
    · subst z
      have run := lp_run (fun (a : Int32) l => am_ev (d + 3) 281 4 [.ref 0, .int (nI 0), .int a, .int (nI l)] [] (M, J, tm_R, tm_S, 77, 21637)) (Int32.toNatClampNeg (M 0 66)) (fun k a => a + M 49 k) (by
        intro a l hl
        try dsimp only
        have gl : ¬ M 0 66 ≤ nI l := by rw [eb]; exact nI_ge hl (by omega)
        have cl : (nI l).toNatClampNeg = l := nI_clamp (by omega)
        rw [b281_4, if_neg gl, if_pos (show nI 0 = 0 from rfl), if_pos (nI_in (by omega) (by omega))]
        simp only [cl]
        rw [nI_1]) 0
      try dsimp only at run
      refine run.trans ?_
      rw [b281_4, if_pos (by rw [← eb]; exact Int32.le_refl _), sm_lp, if_pos rfl]
      rfl
    · rw [b281_4, if_neg z]
      by_cases q : M 0 66 ≤ nI 0
      · rw [if_pos q]
      · rw [if_neg q, if_neg (nI_ne0 (by omega) (by omega))]
  -- lots
  have s2 : am_ev (d + 3) 281 33 [.ref 0, .int (nI w), .int (if w = 0 then pV M x 0 else 0), .int (nI 0)] [] (M, J, tm_R, tm_S, 77, 21637) = am_ev (d + 3) 281 79 [.ref 0, .int (nI w), .int (if w = 0 then pV M x 0 else if w = 1 then pV M x 1 else 0), .int 0] [] (M, J, tm_R, tm_S, 77, 21637) := by
    by_cases z : w = 1
    · subst z
      have run := lp_run (fun (a : Int32) l => am_ev (d + 3) 281 33 [.ref 0, .int (nI 1), .int a, .int (nI l)] [] (M, J, tm_R, tm_S, 77, 21637)) (Int32.toNatClampNeg (M 0 70)) (fun l a => a + M 53 l * M 9 (8 * xb x + Int32.toNatClampNeg (M 51 l))) (by
        intro a l hl
        try dsimp only
        have g := h.H.2.2.1 l hl
        have gl : ¬ M 0 70 ≤ nI l := by rw [el]; exact nI_ge hl (by omega)
        have cl : (nI l).toNatClampNeg = l := nI_clamp (by omega)
        have i40 : am_in (nI l) 40 := nI_in (by omega) (by omega)
        have b51 := g.2.2.2.1.cl (by omega)
        have ix : 8 * M 0 12 + M 51 l = nI (8 * xb x + Int32.toNatClampNeg (M 51 l)) := by
          conv => lhs; rw [g.2.2.2.1.eq (by omega)]
          exact h.ix8 _
        have c16 : (nI (8 * xb x + Int32.toNatClampNeg (M 51 l))).toNatClampNeg = 8 * xb x + Int32.toNatClampNeg (M 51 l) := nI_clamp (by omega)
        rw [b281_33, if_neg gl, if_pos (show nI 1 = 1 from rfl), if_pos i40, if_pos i40]
        simp only [cl]
        rw [m_part8, am_call_s, am_toL, b281_67, ix, if_pos (nI_in (by omega) (by omega))]
        simp only [c16]
        rw [nI_1]) 0
      try dsimp only at run
      rw [if_neg (by omega), if_neg (by omega), if_pos rfl]
      refine run.trans ?_
      rw [b281_33, if_pos (by rw [← el]; exact Int32.le_refl _), sm_lp]
      rfl
    · rw [if_neg z, b281_33]
      by_cases q : M 0 70 ≤ nI 0
      · rw [if_pos q]
      · rw [if_neg q, if_neg (show ¬ nI w = (1 : Int32) from fun y => z (nI_inj (b := 1) (by omega) (by omega) y))]
  rw [b281_0]
  refine s1.trans (s2.trans ?_)
  match w, hw with
  | 0, _ =>
    rw [if_pos rfl, b281_79]
    by_cases q : M 0 74 ≤ 0
    · rw [if_pos q]
    · rw [if_neg q, if_pos (show nI 0 ≤ 1 by decide)]
  | 1, _ =>
    rw [if_neg (by omega), if_pos rfl, b281_79]
    by_cases q : M 0 74 ≤ 0
    · rw [if_pos q]
    · rw [if_neg q, if_pos (show nI 1 ≤ 1 by decide)]
  | w + 2, hw =>
    rw [if_neg (by omega), if_neg (by omega)]
    have e2 : nI (w + 2) - 2 = nI w := nI_sub (a := w + 2) (b := 2) (by omega) (by omega)
    have n1 : ¬ nI (w + 2) ≤ 1 := nI_ge (a := 1) (by omega) (by omega)
    have run := lp_run (fun (a : Int32) l => am_ev (d + 3) 281 79 [.ref 0, .int (nI (w + 2)), .int a, .int (nI l)] [] (M, J, tm_R, tm_S, 77, 21637)) (Int32.toNatClampNeg (M 0 74)) (fun t a => a + if M 55 t = nI w then pO M x (Int32.toNatClampNeg (M 54 t)) else 0) (by
      intro a l hl
      try dsimp only
      have g := h.H.2.2.2.1 l hl
      have gl : ¬ M 0 74 ≤ nI l := by rw [et]; exact nI_ge hl (by omega)
      have cl : (nI l).toNatClampNeg = l := nI_clamp (by omega)
      have i60 : am_in (nI l) 60 := nI_in (by omega) (by omega)
      have po := h.pOM (Int32.toNatClampNeg (M 54 l)) d
      rw [← g.2.2.2.2.2.2.2.1.eq (by omega)] at po
      rw [b281_79, if_neg gl, if_neg n1, if_pos i60]
      simp only [cl]
      rw [e2, nI_1]
      by_cases q : M 55 l = nI w
      · rw [if_pos q, if_pos q, if_pos i60, po, am_call_s, am_toL, b281_115, nI_1]
      · rw [if_neg q, if_neg q]) 0
    try dsimp only at run
    refine run.trans ?_
    rw [b281_79, if_pos (by rw [← et]; exact Int32.le_refl _), sm_lp]
    rfl
theorem k_pounds (h : Rl x C M J) (a : Int32) : Lk 151 282 [.int a] x C M Jc J := by
  rcases i_cases a (n := 7) (by omega) with w | ⟨k, hk, rfl⟩
  · refine ⟨-1, x, C, M, J, ?_, ?_, h⟩
    · rw [b151_0]
      by_cases h0 : a < 0
      · rw [if_pos h0]
      · rw [if_neg h0, if_neg (fun q => by
          have := w.resolve_left h0
          rw [i_le, nI_toInt (by omega)] at this
          rw [i_le] at q
          have : (6 : Int32).toInt = 6 := rfl
          omega)]
    · have e6 : nI 7 - 1 = (6 : Int32) := by decide +kernel
      rw [b282_0, m_is0 _ _ _ (e6 ▸ nin (n := 7) (by omega) w), am_call_s, am_toL, b282_7, if_pos rfl]
  · have e6 : nI 7 - 1 = (6 : Int32) := by decide +kernel
    have st : ∀ (w : Nat) (acc : Int32), w < 4 → am_ev 100 151 57 [.ref 0, .int (nI k), .int acc, .int (nI w)] [] (C, Jc, (tc_R x), tc_S, 289, 11479) = am_ev 100 151 57 [.ref 0, .int (nI k), .int (if k = w + 2 ∨ k = 6 then acc + pV M x (w + 2) else acc), .int (nI (w + 1))] [] (C, Jc, (tc_R x), tc_S, 289, 11479) := by
      intro w acc hw
      have e2 : (2 : Int32) + nI w = nI (w + 2) := by rw [Nat.add_comm w 2]; exact nI_add 2 w
      rw [b151_57, if_neg (show ¬ (3 : Int32) < nI w from nI_nlt (a := 3) (by omega) (by omega)), e2, (show (6 : Int32) = nI 6 from rfl)]
      by_cases q1 : k = w + 2
      · rw [if_pos (show nI k = nI (w + 2) by rw [q1]), if_pos (Or.inl q1), h.ptC, am_call_s, am_toL, b151_84, nI_1]
      · rw [if_neg (fun y => q1 (nI_inj (by omega) (by omega) y))]
        by_cases q2 : k = 6
        · rw [if_pos (show nI k = nI 6 by rw [q2]), if_pos (Or.inr q2), h.ptC, am_call_s, am_toL, b151_84, nI_1]
        · rw [if_neg (fun y => q2 (nI_inj (by omega) (by omega) y)), if_neg (fun y => y.elim q1 q2), nI_1]
    have fin : ∀ acc : Int32, am_ev 100 151 57 [.ref 0, .int (nI k), .int acc, .int (nI 4)] [] (C, Jc, (tc_R x), tc_S, 289, 11479) = some (some (.int acc), (C, Jc, (tc_R x), tc_S, 289, 11479)) := by
      intro acc
      rw [b151_57, if_pos (show (3 : Int32) < nI 4 by decide)]
    have f2 : am_G (am_ev 100) 282 [.ref 0, .int (nI k)] (M, J, tm_R, tm_S, 77, 21637) = (if (6 : Int32) ≤ nI k then am_ev 100 282 28 [.ref 0, .int (nI k), .int 0, .int 0] [] (M, J, tm_R, tm_S, 77, 21637) else am_call (am_G (am_ev 99) 281 [.ref 0, .int (nI k)] (M, J, tm_R, tm_S, 77, 21637)) (fun r M => am_ev 100 282 23 [.ref 0, .int (nI k), am_un, am_un] (r.toList ++ []) M)) := by
      rw [b282_0, m_is1 _ _ _ (e6 ▸ (is_in (nI k) (n := 7) (by omega)).mpr ⟨k, hk, rfl⟩), am_call_s, am_toL, b282_7, if_neg (by decide : ¬ (1 : Int32) = 0)]
    have small : k < 6 → am_G (am_ev 100) 282 [.ref 0, .int (nI k)] (M, J, tm_R, tm_S, 77, 21637) = some (some (.int (pV M x k)), (M, J, tm_R, tm_S, 77, 21637)) := by
      intro hk6
      rw [f2, if_neg (show ¬ (6 : Int32) ≤ nI k from nI_ge (b := 6) hk6 (by omega)), h.piM hk6, am_call_s, am_toL, b282_23]
    have f1 : am_G (am_ev 100) 151 [.ref 0, .int (nI k)] (C, Jc, (tc_R x), tc_S, 289, 11479) = (if nI k = 0 then am_call (am_G (am_ev 99) 37 [.ref 41] (C, Jc, (tc_R x), tc_S, 289, 11479)) (fun r M => am_ev 100 151 32 [.ref 0, .int (nI k), .int 0, am_un] (r.toList ++ [.int 0]) M) else if nI k = 6 then am_call (am_G (am_ev 99) 37 [.ref 41] (C, Jc, (tc_R x), tc_S, 289, 11479)) (fun r M => am_ev 100 151 32 [.ref 0, .int (nI k), .int 0, am_un] (r.toList ++ [.int 0]) M) else am_ev 100 151 34 [.ref 0, .int (nI k), .int 0, am_un] [] (C, Jc, (tc_R x), tc_S, 289, 11479)) := by
      rw [b151_0, if_neg (nI_pos (by omega)), if_pos (show nI k ≤ (6 : Int32) from nI_le (b := 6) (by omega) (by omega))]
    have all : ∀ acc : Int32, am_ev 100 151 57 [.ref 0, .int (nI k), .int acc, .int 0] [] (C, Jc, (tc_R x), tc_S, 289, 11479) = some (some (.int (if k = 5 ∨ k = 6 then (if k = 4 ∨ k = 6 then (if k = 3 ∨ k = 6 then (if k = 2 ∨ k = 6 then acc + pV M x 2 else acc) + pV M x 3 else (if k = 2 ∨ k = 6 then acc + pV M x 2 else acc)) + pV M x 4 else (if k = 3 ∨ k = 6 then (if k = 2 ∨ k = 6 then acc + pV M x 2 else acc) + pV M x 3 else (if k = 2 ∨ k = 6 then acc + pV M x 2 else acc))) + pV M x 5 else (if k = 4 ∨ k = 6 then (if k = 3 ∨ k = 6 then (if k = 2 ∨ k = 6 then acc + pV M x 2 else acc) + pV M x 3 else (if k = 2 ∨ k = 6 then acc + pV M x 2 else acc)) + pV M x 4 else (if k = 3 ∨ k = 6 then (if k = 2 ∨ k = 6 then acc + pV M x 2 else acc) + pV M x 3 else (if k = 2 ∨ k = 6 then acc + pV M x 2 else acc))))), (C, Jc, (tc_R x), tc_S, 289, 11479)) := by
      intro acc
      exact (st 0 _ (by omega)).trans ((st 1 _ (by omega)).trans ((st 2 _ (by omega)).trans ((st 3 _ (by omega)).trans (fin _))))
    have b0 := h.pbC (Jc := Jc) 98
    have l0 := h.plC (Jc := Jc) 98
    match k, hk, st, fin, f2, small, f1, all with
    | 0, _, _, _, _, small, f1, all =>
      refine ⟨pV M x 0, x, C, M, J, ?_, small (by omega), h⟩
      rw [f1, if_pos (show nI 0 = 0 from rfl), b0, am_call_s, am_toL, b151_32, b151_34, if_neg (by decide : ¬ nI 0 = (1 : Int32)), if_neg (by decide : ¬ nI 0 = (6 : Int32)), all, Int32.zero_add]; rfl
    | 1, _, _, _, _, small, f1, all =>
      refine ⟨pV M x 1, x, C, M, J, ?_, small (by omega), h⟩
      rw [f1, if_neg (by decide : ¬ nI 1 = (0 : Int32)), if_neg (by decide : ¬ nI 1 = (6 : Int32)), b151_34, if_pos (show nI 1 = 1 from rfl), l0, am_call_s, am_toL, b151_53, all, Int32.zero_add]; rfl
    | 2, _, _, _, _, small, f1, all =>
      refine ⟨pV M x 2, x, C, M, J, ?_, small (by omega), h⟩
      rw [f1, if_neg (by decide : ¬ nI 2 = (0 : Int32)), if_neg (by decide : ¬ nI 2 = (6 : Int32)), b151_34, if_neg (by decide : ¬ nI 2 = (1 : Int32)), if_neg (by decide : ¬ nI 2 = (6 : Int32)), all, Int32.zero_add]; rfl
    | 3, _, _, _, _, small, f1, all =>
      refine ⟨pV M x 3, x, C, M, J, ?_, small (by omega), h⟩
      rw [f1, if_neg (by decide : ¬ nI 3 = (0 : Int32)), if_neg (by decide : ¬ nI 3 = (6 : Int32)), b151_34, if_neg (by decide : ¬ nI 3 = (1 : Int32)), if_neg (by decide : ¬ nI 3 = (6 : Int32)), all, if_neg (by omega), if_neg (by omega), if_pos (by omega), if_neg (by omega), Int32.zero_add]
    | 4, _, _, _, _, small, f1, all =>
      refine ⟨pV M x 4, x, C, M, J, ?_, small (by omega), h⟩
      rw [f1, if_neg (by decide : ¬ nI 4 = (0 : Int32)), if_neg (by decide : ¬ nI 4 = (6 : Int32)), b151_34, if_neg (by decide : ¬ nI 4 = (1 : Int32)), if_neg (by decide : ¬ nI 4 = (6 : Int32)), all, if_neg (by omega), if_pos (by omega), if_neg (by omega), if_neg (by omega), Int32.zero_add]
    | 5, _, _, _, _, small, f1, all =>
      refine ⟨pV M x 5, x, C, M, J, ?_, small (by omega), h⟩
      rw [f1, if_neg (by decide : ¬ nI 5 = (0 : Int32)), if_neg (by decide : ¬ nI 5 = (6 : Int32)), b151_34, if_neg (by decide : ¬ nI 5 = (1 : Int32)), if_neg (by decide : ¬ nI 5 = (6 : Int32)), all, if_pos (by omega), if_neg (by omega), if_neg (by omega), if_neg (by omega), Int32.zero_add]
    | 6, _, _, _, f2, _, f1, all =>
      refine ⟨0 + pV M x 0 + pV M x 1 + pV M x 2 + pV M x 3 + pV M x 4 + pV M x 5, x, C, M, J, ?_, ?_, h⟩
      · rw [f1, if_neg (by decide : ¬ nI 6 = (0 : Int32)), if_pos (show nI 6 = 6 from rfl), b0, am_call_s, am_toL, b151_32, b151_34, if_neg (by decide : ¬ nI 6 = (1 : Int32)), if_pos (show nI 6 = 6 from rfl), l0, am_call_s, am_toL, b151_53, all, if_pos (by omega), if_pos (by omega), if_pos (by omega), if_pos (by omega)]
      · rw [f2, if_pos (show (6 : Int32) ≤ nI 6 from Int32.le_refl _)]
        have sp : ∀ (w : Nat) (acc : Int32), w < 6 → am_ev 100 282 28 [.ref 0, .int (nI 6), .int acc, .int (nI w)] [] (M, J, tm_R, tm_S, 77, 21637) = am_ev 100 282 28 [.ref 0, .int (nI 6), .int (acc + pV M x w), .int (nI (w + 1))] [] (M, J, tm_R, tm_S, 77, 21637) := by
          intro w acc hw
          rw [b282_28, if_neg (show ¬ (6 : Int32) ≤ nI w from nI_ge (b := 6) hw (by omega)), h.piM hw, am_call_s, am_toL]
          refine (b282_40 99 M J (some (.inr (nI 6))) (.int acc) (nI w) acc (pV M x w)).trans ?_
          rw [nI_1]; rfl
        refine (sp 0 0 (by omega)).trans ((sp 1 _ (by omega)).trans ((sp 2 _ (by omega)).trans ((sp 3 _ (by omega)).trans ((sp 4 _ (by omega)).trans ((sp 5 _ (by omega)).trans ?_)))))
        rw [b282_28, if_pos (show (6 : Int32) ≤ nI 6 from Int32.le_refl _)]
end PN2
