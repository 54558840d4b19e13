/-! THE CHOICE of a statement (printed by gendisp.py) -/
def LawOK : Prop := ∀ (T : Nat → Nat) (n : Nat) (x : Bool) (C M : tI) (J Jc : tJ) (p q k v : Nat) (w : List Nat) (N : Nat → Nat) (la lb : Nat), Gd T n C M J p q k v w → k = 3 → PL x N la lb C M J → la ≤ p → lb ≤ p → ∀ d e, Stm x T n 95 198 p C M J Jc d e
section DSP
variable {T : Nat → Nat} {n lo p q k v la lb : Nat} {w : List Nat} {x y : Bool} {C M C' M' : tI} {J J' Jc : tJ} {N : Nat → Nat}
theorem PL.tf (h : PL x N la lb C M J) (hC : TF C C') (hM : MF M M') (hJ : JF J J') : PL x N la lb C' M' J' := by
  have hy := tc_P4 (!x)
  have n2 : N 2 ≤ 6 := (h.1 2 (by omega)).2.2
  obtain ⟨h1, h2, h3⟩ := h
  refine ⟨fun i hi => ?_, h2.fr n2 (fun o k _ _ => hC _ _ (by omega)) (fun a k _ _ _ => hM _ _ (by omega)) (hM _ _ (by omega)) (fun q k hq _ => hJ _ _ (jk_0 hq)), (hM 0 51 (by omega)).trans h3⟩
  have c9 := cq9 hi
  rw [hC _ _ (by omega), hM _ _ (by have := c9.1; omega)]; exact h1 i hi
/-- the class's switch when no statement begins so -/
theorem c_noS (d : Nat) (c s : Int32) (h0 : ¬ s = 0) (h3 : ¬ s = 3) (h7 : ¬ s = 7) (h9 : ¬ s = 9) (h10 : ¬ s = 10) (h11 : ¬ s = 11) (h12 : ¬ s = 12) (h14 : ¬ s = 14) (h16 : ¬ s = 16) (h18 : ¬ s = 18) (h19 : ¬ s = 19) : am_ev (d + 1) 74 71 [.ref 1, .int c] [.int s] (C, Jc, (tc_R x), tc_S, 289, 11479) = am_call (am_G (am_ev d) 75 [.ref 1, .int 1, .int (C 1 6)] (C, Jc, (tc_R x), tc_S, 289, 11479)) (fun r M => am_ev (d + 1) 74 250 [.ref 1, .int c] (r.toList ++ []) M) := by
  rw [b74_71]
  simp only [if_neg h0, if_neg h3, if_neg h7, if_neg h9, if_neg h10, if_neg h11, if_neg h12, if_neg h14, if_neg h16, if_neg h18, if_neg h19, ite_self]
theorem c_S0 (d : Nat) (c : Int32) : am_ev (d + 1) 74 71 [.ref 1, .int c] [.int (nI 0)] (C, Jc, (tc_R x), tc_S, 289, 11479) = am_call (am_G (am_ev d) 85 [.ref 1] (C, Jc, (tc_R x), tc_S, 289, 11479)) (fun r M => am_ev (d + 1) 74 168 [.ref 1, .int c] (r.toList ++ []) M) := by
  rw [b74_71, if_pos (by decide : nI 0 = (0 : Int32))]
theorem c_S3 (d : Nat) (c : Int32) : am_ev (d + 1) 74 71 [.ref 1, .int c] [.int (nI 3)] (C, Jc, (tc_R x), tc_S, 289, 11479) = am_call (am_G (am_ev d) 86 [.ref 1] (C, Jc, (tc_R x), tc_S, 289, 11479)) (fun r M => am_ev (d + 1) 74 175 [.ref 1, .int c] (r.toList ++ []) M) := by
  rw [b74_71, if_neg (by decide : ¬ nI 3 = (0 : Int32)), if_neg (by decide : ¬ nI 3 = (1 : Int32)), if_neg (by decide : ¬ nI 3 = (2 : Int32)), if_pos (by decide : nI 3 = (3 : Int32))]
theorem c_S7 (d : Nat) (c : Int32) : am_ev (d + 1) 74 71 [.ref 1, .int c] [.int (nI 7)] (C, Jc, (tc_R x), tc_S, 289, 11479) = am_call (am_G (am_ev d) 87 [.ref 1] (C, Jc, (tc_R x), tc_S, 289, 11479)) (fun r M => am_ev (d + 1) 74 182 [.ref 1, .int c] (r.toList ++ []) M) := by
  rw [b74_71, if_neg (by decide : ¬ nI 7 = (0 : Int32)), if_neg (by decide : ¬ nI 7 = (1 : Int32)), if_neg (by decide : ¬ nI 7 = (2 : Int32)), if_neg (by decide : ¬ nI 7 = (3 : Int32)), if_neg (by decide : ¬ nI 7 = (4 : Int32)), if_neg (by decide : ¬ nI 7 = (5 : Int32)), if_neg (by decide : ¬ nI 7 = (6 : Int32)), if_pos (by decide : nI 7 = (7 : Int32))]
theorem c_S9 (d : Nat) (c : Int32) : am_ev (d + 1) 74 71 [.ref 1, .int c] [.int (nI 9)] (C, Jc, (tc_R x), tc_S, 289, 11479) = am_call (am_G (am_ev d) 88 [.ref 1] (C, Jc, (tc_R x), tc_S, 289, 11479)) (fun r M => am_ev (d + 1) 74 189 [.ref 1, .int c] (r.toList ++ []) M) := by
  rw [b74_71, if_neg (by decide : ¬ nI 9 = (0 : Int32)), if_neg (by decide : ¬ nI 9 = (1 : Int32)), if_neg (by decide : ¬ nI 9 = (2 : Int32)), if_neg (by decide : ¬ nI 9 = (3 : Int32)), if_neg (by decide : ¬ nI 9 = (4 : Int32)), if_neg (by decide : ¬ nI 9 = (5 : Int32)), if_neg (by decide : ¬ nI 9 = (6 : Int32)), if_neg (by decide : ¬ nI 9 = (7 : Int32)), if_neg (by decide : ¬ nI 9 = (8 : Int32)), if_pos (by decide : nI 9 = (9 : Int32))]
theorem c_S10 (d : Nat) (c : Int32) : am_ev (d + 1) 74 71 [.ref 1, .int c] [.int (nI 10)] (C, Jc, (tc_R x), tc_S, 289, 11479) = am_call (am_G (am_ev d) 89 [.ref 1] (C, Jc, (tc_R x), tc_S, 289, 11479)) (fun r M => am_ev (d + 1) 74 196 [.ref 1, .int c] (r.toList ++ []) M) := by
  rw [b74_71, if_neg (by decide : ¬ nI 10 = (0 : Int32)), if_neg (by decide : ¬ nI 10 = (1 : Int32)), if_neg (by decide : ¬ nI 10 = (2 : Int32)), if_neg (by decide : ¬ nI 10 = (3 : Int32)), if_neg (by decide : ¬ nI 10 = (4 : Int32)), if_neg (by decide : ¬ nI 10 = (5 : Int32)), if_neg (by decide : ¬ nI 10 = (6 : Int32)), if_neg (by decide : ¬ nI 10 = (7 : Int32)), if_neg (by decide : ¬ nI 10 = (8 : Int32)), if_neg (by decide : ¬ nI 10 = (9 : Int32)), if_pos (by decide : nI 10 = (10 : Int32))]
theorem c_S11 (d : Nat) (c : Int32) : am_ev (d + 1) 74 71 [.ref 1, .int c] [.int (nI 11)] (C, Jc, (tc_R x), tc_S, 289, 11479) = am_call (am_G (am_ev d) 90 [.ref 1] (C, Jc, (tc_R x), tc_S, 289, 11479)) (fun r M => am_ev (d + 1) 74 203 [.ref 1, .int c] (r.toList ++ []) M) := by
  rw [b74_71, if_neg (by decide : ¬ nI 11 = (0 : Int32)), if_neg (by decide : ¬ nI 11 = (1 : Int32)), if_neg (by decide : ¬ nI 11 = (2 : Int32)), if_neg (by decide : ¬ nI 11 = (3 : Int32)), if_neg (by decide : ¬ nI 11 = (4 : Int32)), if_neg (by decide : ¬ nI 11 = (5 : Int32)), if_neg (by decide : ¬ nI 11 = (6 : Int32)), if_neg (by decide : ¬ nI 11 = (7 : Int32)), if_neg (by decide : ¬ nI 11 = (8 : Int32)), if_neg (by decide : ¬ nI 11 = (9 : Int32)), if_neg (by decide : ¬ nI 11 = (10 : Int32)), if_pos (by decide : nI 11 = (11 : Int32))]
theorem c_S12 (d : Nat) (c : Int32) : am_ev (d + 1) 74 71 [.ref 1, .int c] [.int (nI 12)] (C, Jc, (tc_R x), tc_S, 289, 11479) = am_call (am_G (am_ev d) 91 [.ref 1] (C, Jc, (tc_R x), tc_S, 289, 11479)) (fun r M => am_ev (d + 1) 74 210 [.ref 1, .int c] (r.toList ++ []) M) := by
  rw [b74_71, if_neg (by decide : ¬ nI 12 = (0 : Int32)), if_neg (by decide : ¬ nI 12 = (1 : Int32)), if_neg (by decide : ¬ nI 12 = (2 : Int32)), if_neg (by decide : ¬ nI 12 = (3 : Int32)), if_neg (by decide : ¬ nI 12 = (4 : Int32)), if_neg (by decide : ¬ nI 12 = (5 : Int32)), if_neg (by decide : ¬ nI 12 = (6 : Int32)), if_neg (by decide : ¬ nI 12 = (7 : Int32)), if_neg (by decide : ¬ nI 12 = (8 : Int32)), if_neg (by decide : ¬ nI 12 = (9 : Int32)), if_neg (by decide : ¬ nI 12 = (10 : Int32)), if_neg (by decide : ¬ nI 12 = (11 : Int32)), if_pos (by decide : nI 12 = (12 : Int32))]
theorem c_S14 (d : Nat) (c : Int32) : am_ev (d + 1) 74 71 [.ref 1, .int c] [.int (nI 14)] (C, Jc, (tc_R x), tc_S, 289, 11479) = am_call (am_G (am_ev d) 92 [.ref 1] (C, Jc, (tc_R x), tc_S, 289, 11479)) (fun r M => am_ev (d + 1) 74 217 [.ref 1, .int c] (r.toList ++ []) M) := by
  rw [b74_71, if_neg (by decide : ¬ nI 14 = (0 : Int32)), if_neg (by decide : ¬ nI 14 = (1 : Int32)), if_neg (by decide : ¬ nI 14 = (2 : Int32)), if_neg (by decide : ¬ nI 14 = (3 : Int32)), if_neg (by decide : ¬ nI 14 = (4 : Int32)), if_neg (by decide : ¬ nI 14 = (5 : Int32)), if_neg (by decide : ¬ nI 14 = (6 : Int32)), if_neg (by decide : ¬ nI 14 = (7 : Int32)), if_neg (by decide : ¬ nI 14 = (8 : Int32)), if_neg (by decide : ¬ nI 14 = (9 : Int32)), if_neg (by decide : ¬ nI 14 = (10 : Int32)), if_neg (by decide : ¬ nI 14 = (11 : Int32)), if_neg (by decide : ¬ nI 14 = (12 : Int32)), if_neg (by decide : ¬ nI 14 = (13 : Int32)), if_pos (by decide : nI 14 = (14 : Int32))]
theorem c_S16 (d : Nat) (c : Int32) : am_ev (d + 1) 74 71 [.ref 1, .int c] [.int (nI 16)] (C, Jc, (tc_R x), tc_S, 289, 11479) = am_call (am_G (am_ev d) 93 [.ref 1] (C, Jc, (tc_R x), tc_S, 289, 11479)) (fun r M => am_ev (d + 1) 74 224 [.ref 1, .int c] (r.toList ++ []) M) := by
  rw [b74_71, if_neg (by decide : ¬ nI 16 = (0 : Int32)), if_neg (by decide : ¬ nI 16 = (1 : Int32)), if_neg (by decide : ¬ nI 16 = (2 : Int32)), if_neg (by decide : ¬ nI 16 = (3 : Int32)), if_neg (by decide : ¬ nI 16 = (4 : Int32)), if_neg (by decide : ¬ nI 16 = (5 : Int32)), if_neg (by decide : ¬ nI 16 = (6 : Int32)), if_neg (by decide : ¬ nI 16 = (7 : Int32)), if_neg (by decide : ¬ nI 16 = (8 : Int32)), if_neg (by decide : ¬ nI 16 = (9 : Int32)), if_neg (by decide : ¬ nI 16 = (10 : Int32)), if_neg (by decide : ¬ nI 16 = (11 : Int32)), if_neg (by decide : ¬ nI 16 = (12 : Int32)), if_neg (by decide : ¬ nI 16 = (13 : Int32)), if_neg (by decide : ¬ nI 16 = (14 : Int32)), if_neg (by decide : ¬ nI 16 = (15 : Int32)), if_pos (by decide : nI 16 = (16 : Int32))]
theorem c_S18 (d : Nat) (c : Int32) : am_ev (d + 1) 74 71 [.ref 1, .int c] [.int (nI 18)] (C, Jc, (tc_R x), tc_S, 289, 11479) = am_call (am_G (am_ev d) 94 [.ref 1] (C, Jc, (tc_R x), tc_S, 289, 11479)) (fun r M => am_ev (d + 1) 74 231 [.ref 1, .int c] (r.toList ++ []) M) := by
  rw [b74_71, if_neg (by decide : ¬ nI 18 = (0 : Int32)), if_neg (by decide : ¬ nI 18 = (1 : Int32)), if_neg (by decide : ¬ nI 18 = (2 : Int32)), if_neg (by decide : ¬ nI 18 = (3 : Int32)), if_neg (by decide : ¬ nI 18 = (4 : Int32)), if_neg (by decide : ¬ nI 18 = (5 : Int32)), if_neg (by decide : ¬ nI 18 = (6 : Int32)), if_neg (by decide : ¬ nI 18 = (7 : Int32)), if_neg (by decide : ¬ nI 18 = (8 : Int32)), if_neg (by decide : ¬ nI 18 = (9 : Int32)), if_neg (by decide : ¬ nI 18 = (10 : Int32)), if_neg (by decide : ¬ nI 18 = (11 : Int32)), if_neg (by decide : ¬ nI 18 = (12 : Int32)), if_neg (by decide : ¬ nI 18 = (13 : Int32)), if_neg (by decide : ¬ nI 18 = (14 : Int32)), if_neg (by decide : ¬ nI 18 = (15 : Int32)), if_neg (by decide : ¬ nI 18 = (16 : Int32)), if_neg (by decide : ¬ nI 18 = (17 : Int32)), if_pos (by decide : nI 18 = (18 : Int32))]
theorem c_S19 (d : Nat) (c : Int32) : am_ev (d + 1) 74 71 [.ref 1, .int c] [.int (nI 19)] (C, Jc, (tc_R x), tc_S, 289, 11479) = am_call (am_G (am_ev d) 95 [.ref 1] (C, Jc, (tc_R x), tc_S, 289, 11479)) (fun r M => am_ev (d + 1) 74 238 [.ref 1, .int c] (r.toList ++ []) M) := by
  rw [b74_71, if_neg (by decide : ¬ nI 19 = (0 : Int32)), if_neg (by decide : ¬ nI 19 = (1 : Int32)), if_neg (by decide : ¬ nI 19 = (2 : Int32)), if_neg (by decide : ¬ nI 19 = (3 : Int32)), if_neg (by decide : ¬ nI 19 = (4 : Int32)), if_neg (by decide : ¬ nI 19 = (5 : Int32)), if_neg (by decide : ¬ nI 19 = (6 : Int32)), if_neg (by decide : ¬ nI 19 = (7 : Int32)), if_neg (by decide : ¬ nI 19 = (8 : Int32)), if_neg (by decide : ¬ nI 19 = (9 : Int32)), if_neg (by decide : ¬ nI 19 = (10 : Int32)), if_neg (by decide : ¬ nI 19 = (11 : Int32)), if_neg (by decide : ¬ nI 19 = (12 : Int32)), if_neg (by decide : ¬ nI 19 = (13 : Int32)), if_neg (by decide : ¬ nI 19 = (14 : Int32)), if_neg (by decide : ¬ nI 19 = (15 : Int32)), if_neg (by decide : ¬ nI 19 = (16 : Int32)), if_neg (by decide : ¬ nI 19 = (17 : Int32)), if_neg (by decide : ¬ nI 19 = (18 : Int32)), if_pos (by decide : nI 19 = (19 : Int32))]
/-- the model's choice -/
theorem m_S (g : Gd T n C M J p q k v w) (e : Nat) : am_G (am_ev (e + 3)) 199 [.ref 0] (M, J, tm_R, tm_S, 77, 21637) = (if k = 3 ∧ v = 0 then am_call (am_G (am_ev (e + 2)) 187 [.ref 0] (M, J, tm_R, tm_S, 77, 21637)) (fun r M => am_ev (e + 3) 199 14 [.ref 0] (r.toList ++ []) M) else (if k = 3 ∧ v = 3 then am_call (am_G (am_ev (e + 2)) 188 [.ref 0] (M, J, tm_R, tm_S, 77, 21637)) (fun r M => am_ev (e + 3) 199 31 [.ref 0] (r.toList ++ []) M) else (if k = 3 ∧ v = 7 then am_call (am_G (am_ev (e + 2)) 189 [.ref 0] (M, J, tm_R, tm_S, 77, 21637)) (fun r M => am_ev (e + 3) 199 48 [.ref 0] (r.toList ++ []) M) else (if k = 3 ∧ v = 9 then am_call (am_G (am_ev (e + 2)) 191 [.ref 0] (M, J, tm_R, tm_S, 77, 21637)) (fun r M => am_ev (e + 3) 199 65 [.ref 0] (r.toList ++ []) M) else (if k = 3 ∧ v = 10 then am_call (am_G (am_ev (e + 2)) 192 [.ref 0] (M, J, tm_R, tm_S, 77, 21637)) (fun r M => am_ev (e + 3) 199 82 [.ref 0] (r.toList ++ []) M) else (if k = 3 ∧ v = 11 then am_call (am_G (am_ev (e + 2)) 193 [.ref 0] (M, J, tm_R, tm_S, 77, 21637)) (fun r M => am_ev (e + 3) 199 99 [.ref 0] (r.toList ++ []) M) else am_call (am_G (am_ev (e + 2)) 200 [.ref 0] (M, J, tm_R, tm_S, 77, 21637)) (fun r M => am_ev (e + 3) 199 106 [.ref 0] (r.toList ++ []) M))))))) := by
  rw [b199_0, g.at3M (j := 0) (by omega) (c := 7170424) (by decide), am_call_s, am_toL, b199_7]
  by_cases z0 : k = 3 ∧ v = 0
  · rw [am_b1 z0, if_neg (by decide : ¬ (1 : Int32) = 0), if_pos z0]
  · rw [am_b0 z0, if_pos rfl, if_neg z0, g.at3M (j := 3) (by omega) (c := 1885434484) (by decide), am_call_s, am_toL, b199_24]
    by_cases z3 : k = 3 ∧ v = 3
    · rw [am_b1 z3, if_neg (by decide : ¬ (1 : Int32) = 0), if_pos z3]
    · rw [am_b0 z3, if_pos rfl, if_neg z3, g.at3M (j := 7) (by omega) (c := 1936292453) (by decide), am_call_s, am_toL, b199_41]
      by_cases z7 : k = 3 ∧ v = 7
      · rw [am_b1 z7, if_neg (by decide : ¬ (1 : Int32) = 0), if_pos z7]
      · rw [am_b0 z7, if_pos rfl, if_neg z7, g.at3M (j := 9) (by omega) (c := 474147546227) (by decide), am_call_s, am_toL, b199_58]
        by_cases z9 : k = 3 ∧ v = 9
        · rw [am_b1 z9, if_neg (by decide : ¬ (1 : Int32) = 0), if_pos z9]
        · rw [am_b0 z9, if_pos rfl, if_neg z9, g.at3M (j := 10) (by omega) (c := 109299962373989) (by decide), am_call_s, am_toL, b199_75]
          by_cases z10 : k = 3 ∧ v = 10
          · rw [am_b1 z10, if_neg (by decide : ¬ (1 : Int32) = 0), if_pos z10]
          · rw [am_b0 z10, if_pos rfl, if_neg z10, g.at3M (j := 11) (by omega) (c := 482955588467) (by decide), am_call_s, am_toL, b199_92]
            by_cases z11 : k = 3 ∧ v = 11
            · rw [am_b1 z11, if_neg (by decide : ¬ (1 : Int32) = 0), if_pos z11]
            · rw [am_b0 z11, if_pos rfl, if_neg z11]
theorem m_O (g : Gd T n C M J p q k v w) (e : Nat) : am_G (am_ev (e + 2)) 200 [.ref 0] (M, J, tm_R, tm_S, 77, 21637) = (if k = 3 ∧ v = 12 then am_call (am_G (am_ev (e + 1)) 194 [.ref 0] (M, J, tm_R, tm_S, 77, 21637)) (fun r M => am_ev (e + 2) 200 14 [.ref 0] (r.toList ++ []) M) else (if k = 3 ∧ v = 14 then am_call (am_G (am_ev (e + 1)) 195 [.ref 0] (M, J, tm_R, tm_S, 77, 21637)) (fun r M => am_ev (e + 2) 200 31 [.ref 0] (r.toList ++ []) M) else (if k = 3 ∧ v = 16 then am_call (am_G (am_ev (e + 1)) 196 [.ref 0] (M, J, tm_R, tm_S, 77, 21637)) (fun r M => am_ev (e + 2) 200 48 [.ref 0] (r.toList ++ []) M) else (if k = 3 ∧ v = 18 then am_call (am_G (am_ev (e + 1)) 197 [.ref 0] (M, J, tm_R, tm_S, 77, 21637)) (fun r M => am_ev (e + 2) 200 65 [.ref 0] (r.toList ++ []) M) else (if k = 3 ∧ v = 19 then am_call (am_G (am_ev (e + 1)) 198 [.ref 0] (M, J, tm_R, tm_S, 77, 21637)) (fun r M => am_ev (e + 2) 200 82 [.ref 0] (r.toList ++ []) M) else am_call (am_G (am_ev (e + 1)) 161 [.ref 0, .int 1, .int (M 0 4)] (M, J, tm_R, tm_S, 77, 21637)) (fun r M => am_ev (e + 2) 200 94 [.ref 0] (r.toList ++ []) M)))))) := by
  rw [b200_0, g.at3M (j := 12) (by omega) (c := 470021401700) (by decide), am_call_s, am_toL, b200_7]
  by_cases z12 : k = 3 ∧ v = 12
  · rw [am_b1 z12, if_neg (by decide : ¬ (1 : Int32) = 0), if_pos z12]
  · rw [am_b0 z12, if_pos rfl, if_neg z12, g.at3M (j := 14) (by omega) (c := 478660552050) (by decide), am_call_s, am_toL, b200_24]
    by_cases z14 : k = 3 ∧ v = 14
    · rw [am_b1 z14, if_neg (by decide : ¬ (1 : Int32) = 0), if_pos z14]
    · rw [am_b0 z14, if_pos rfl, if_neg z14, g.at3M (j := 16) (by omega) (c := 495672714612) (by decide), am_call_s, am_toL, b200_41]
      by_cases z16 : k = 3 ∧ v = 16
      · rw [am_b1 z16, if_neg (by decide : ¬ (1 : Int32) = 0), if_pos z16]
      · rw [am_b0 z16, if_pos rfl, if_neg z16, g.at3M (j := 18) (by omega) (c := 491328337011) (by decide), am_call_s, am_toL, b200_58]
        by_cases z18 : k = 3 ∧ v = 18
        · rw [am_b1 z18, if_neg (by decide : ¬ (1 : Int32) = 0), if_pos z18]
        · rw [am_b0 z18, if_pos rfl, if_neg z18, g.at3M (j := 19) (by omega) (c := 6447460) (by decide), am_call_s, am_toL, b200_75]
          by_cases z19 : k = 3 ∧ v = 19
          · rw [am_b1 z19, if_neg (by decide : ¬ (1 : Int32) = 0), if_pos z19]
          · rw [am_b0 z19, if_pos rfl, if_neg z19]
/-- one statement without its end -/
theorem stm0 (hl : LawOK) (g : Gd T n C M J p q k v w) (hk1 : k ≠ 1) (hP : PL x N la lb C M J) (hla : la ≤ p) (hlb : lb ≤ p) (d e : Nat) (c : Int32) (hc : ¬ 1600 ≤ c) : ∃ C' M' J', am_ev (d + 61) 74 33 [.ref 1, .int c] [] (C, Jc, (tc_R x), tc_S, 289, 11479) = am_ev (d + 61) 74 250 [.ref 1, .int c] [] (C', Jc, (tc_R x), tc_S, 289, 11479) ∧ am_G (am_ev (e + 12)) 199 [.ref 0] (M, J, tm_R, tm_S, 77, 21637) = am_ev (e + 12) 199 106 [.ref 0] [] (M', J', tm_R, tm_S, 77, 21637) ∧ RC (!x) C C' ∧ RM (!x) M M' ∧ RJ (!x) J J' ∧ ∃ q', p ≤ q' ∧ Sy T n q' C' M' J' ∧ (M' 0 8 = 0 → p < q' ∧ ∃ N' la' lb', PL x N' la' lb' C' M' J' ∧ la' ≤ q' ∧ lb' ≤ q') := by
  have c0 : am_ev (d + 61) 74 33 [.ref 1, .int c] [] (C, Jc, (tc_R x), tc_S, 289, 11479) = am_ev (d + 61) 74 71 [.ref 1, .int c] [.int (if k = 3 then C 1 5 else -1)] (C, Jc, (tc_R x), tc_S, 289, 11479) := by
    rw [b74_33, if_neg hc, if_neg (fun z => hk1 ((g.ke (c := 1) (j := 1) rfl (by omega)).mp z)), if_pos g.c7]
    by_cases z : k = 3
    · rw [if_pos ((g.ke (c := 3) (j := 3) rfl (by omega)).mpr z), if_pos z]
    · rw [if_neg (fun y => z ((g.ke (c := 3) (j := 3) rfl (by omega)).mp y)), if_neg z]
  by_cases z0 : k = 3 ∧ v = 0
  · obtain ⟨zk, zv⟩ := z0
    have t3 := (g.t3 zk).2.1
    obtain ⟨C2, M2, J2, a1, a2, a3, a4, a5, q2, a6, a7, a8⟩ := st_mix (Jc := Jc) g zk hP hla hlb d (e + 1)
    refine ⟨C2, M2, J2, ?_, ?_, a3, a4, a5, q2, by omega, a7, fun z => ⟨a6, a8 z⟩⟩
    · rw [c0, if_pos zk, t3, zv]
      refine (c_S0 _ _).trans ((congrArg (fun z => am_call z _) a1).trans ?_)
      rw [am_call_s, am_toN, b74_168]
    · rw [m_S g (e + 9), if_pos ⟨zk, zv⟩]
      refine (congrArg (fun z => am_call z _) a2).trans ?_
      rw [am_call_s, am_toN, b199_14]
  by_cases z3 : k = 3 ∧ v = 3
  · obtain ⟨zk, zv⟩ := z3
    have t3 := (g.t3 zk).2.1
    obtain ⟨C2, M2, J2, a1, a2, a3, a4, a5, q2, a6, a7, a8⟩ := st_part (Jc := Jc) g zk hP hla hlb d (e + 1)
    refine ⟨C2, M2, J2, ?_, ?_, a3, a4, a5, q2, by omega, a7, fun z => ⟨a6, a8 z⟩⟩
    · rw [c0, if_pos zk, t3, zv]
      refine (c_S3 _ _).trans ((congrArg (fun z => am_call z _) a1).trans ?_)
      rw [am_call_s, am_toN, b74_175]
    · rw [m_S g (e + 9), if_neg z0, if_pos ⟨zk, zv⟩]
      refine (congrArg (fun z => am_call z _) a2).trans ?_
      rw [am_call_s, am_toN, b199_31]
  by_cases z7 : k = 3 ∧ v = 7
  · obtain ⟨zk, zv⟩ := z7
    have t3 := (g.t3 zk).2.1
    obtain ⟨C2, M2, J2, a1, a2, a3, a4, a5, q2, a6, a7, a8⟩ := st_size (Jc := Jc) g zk hP hla hlb d (e + 1)
    refine ⟨C2, M2, J2, ?_, ?_, a3, a4, a5, q2, by omega, a7, fun z => ⟨a6, a8 z⟩⟩
    · rw [c0, if_pos zk, t3, zv]
      refine (c_S7 _ _).trans ((congrArg (fun z => am_call z _) a1).trans ?_)
      rw [am_call_s, am_toN, b74_182]
    · rw [m_S g (e + 9), if_neg z0, if_neg z3, if_pos ⟨zk, zv⟩]
      refine (congrArg (fun z => am_call z _) a2).trans ?_
      rw [am_call_s, am_toN, b199_48]
  by_cases z9 : k = 3 ∧ v = 9
  · obtain ⟨zk, zv⟩ := z9
    have t3 := (g.t3 zk).2.1
    obtain ⟨C2, M2, J2, a1, a2, a3, a4, a5, q2, a6, a7, a8⟩ := st_needs (Jc := Jc) g zk hP hla hlb d (e + 1)
    refine ⟨C2, M2, J2, ?_, ?_, a3, a4, a5, q2, by omega, a7, fun z => ⟨a6, a8 z⟩⟩
    · rw [c0, if_pos zk, t3, zv]
      refine (c_S9 _ _).trans ((congrArg (fun z => am_call z _) a1).trans ?_)
      rw [am_call_s, am_toN, b74_189]
    · rw [m_S g (e + 9), if_neg z0, if_neg z3, if_neg z7, if_pos ⟨zk, zv⟩]
      refine (congrArg (fun z => am_call z _) a2).trans ?_
      rw [am_call_s, am_toN, b199_65]
  by_cases z10 : k = 3 ∧ v = 10
  · obtain ⟨zk, zv⟩ := z10
    have t3 := (g.t3 zk).2.1
    obtain ⟨C2, M2, J2, a1, a2, a3, a4, a5, q2, a6, a7, a8⟩ := st_change (Jc := Jc) g zk hP hla hlb d (e + 1)
    refine ⟨C2, M2, J2, ?_, ?_, a3, a4, a5, q2, by omega, a7, fun z => ⟨a6, a8 z⟩⟩
    · rw [c0, if_pos zk, t3, zv]
      refine (c_S10 _ _).trans ((congrArg (fun z => am_call z _) a1).trans ?_)
      rw [am_call_s, am_toN, b74_196]
    · rw [m_S g (e + 9), if_neg z0, if_neg z3, if_neg z7, if_neg z9, if_pos ⟨zk, zv⟩]
      refine (congrArg (fun z => am_call z _) a2).trans ?_
      rw [am_call_s, am_toN, b199_82]
  by_cases z11 : k = 3 ∧ v = 11
  · obtain ⟨zk, zv⟩ := z11
    have t3 := (g.t3 zk).2.1
    obtain ⟨C2, M2, J2, a1, a2, a3, a4, a5, q2, a6, a7, a8⟩ := st_press (Jc := Jc) g zk hP hla hlb d (e + 1)
    refine ⟨C2, M2, J2, ?_, ?_, a3, a4, a5, q2, by omega, a7, fun z => ⟨a6, a8 z⟩⟩
    · rw [c0, if_pos zk, t3, zv]
      refine (c_S11 _ _).trans ((congrArg (fun z => am_call z _) a1).trans ?_)
      rw [am_call_s, am_toN, b74_203]
    · rw [m_S g (e + 9), if_neg z0, if_neg z3, if_neg z7, if_neg z9, if_neg z10, if_pos ⟨zk, zv⟩]
      refine (congrArg (fun z => am_call z _) a2).trans ?_
      rw [am_call_s, am_toN, b199_99]
  by_cases z12 : k = 3 ∧ v = 12
  · obtain ⟨zk, zv⟩ := z12
    have t3 := (g.t3 zk).2.1
    obtain ⟨C2, M2, J2, a1, a2, a3, a4, a5, q2, a6, a7, a8⟩ := st_mould (Jc := Jc) g zk hP hla hlb d e
    refine ⟨C2, M2, J2, ?_, ?_, a3, a4, a5, q2, by omega, a7, fun z => ⟨a6, a8 z⟩⟩
    · rw [c0, if_pos zk, t3, zv]
      refine (c_S12 _ _).trans ((congrArg (fun z => am_call z _) a1).trans ?_)
      rw [am_call_s, am_toN, b74_210]
    · have m1 : am_G (am_ev (e + 11)) 200 [.ref 0] (M, J, tm_R, tm_S, 77, 21637) = some (none, (M2, J2, tm_R, tm_S, 77, 21637)) := by
        rw [m_O g (e + 9), if_pos ⟨zk, zv⟩]
        refine (congrArg (fun z => am_call z _) a2).trans ?_
        rw [am_call_s, am_toN, b200_14, b200_94]
      rw [m_S g (e + 9), if_neg z0, if_neg z3, if_neg z7, if_neg z9, if_neg z10, if_neg z11]
      refine (congrArg (fun z => am_call z _) m1).trans ?_
      rw [am_call_s, am_toN]
  by_cases z14 : k = 3 ∧ v = 14
  · obtain ⟨zk, zv⟩ := z14
    have t3 := (g.t3 zk).2.1
    obtain ⟨C2, M2, J2, a1, a2, a3, a4, a5, q2, a6, a7, a8⟩ := st_order (Jc := Jc) g zk hP hla hlb d e
    refine ⟨C2, M2, J2, ?_, ?_, a3, a4, a5, q2, by omega, a7, fun z => ⟨a6, a8 z⟩⟩
    · rw [c0, if_pos zk, t3, zv]
      refine (c_S14 _ _).trans ((congrArg (fun z => am_call z _) a1).trans ?_)
      rw [am_call_s, am_toN, b74_217]
    · have m1 : am_G (am_ev (e + 11)) 200 [.ref 0] (M, J, tm_R, tm_S, 77, 21637) = some (none, (M2, J2, tm_R, tm_S, 77, 21637)) := by
        rw [m_O g (e + 9), if_neg z12, if_pos ⟨zk, zv⟩]
        refine (congrArg (fun z => am_call z _) a2).trans ?_
        rw [am_call_s, am_toN, b200_31, b200_94]
      rw [m_S g (e + 9), if_neg z0, if_neg z3, if_neg z7, if_neg z9, if_neg z10, if_neg z11]
      refine (congrArg (fun z => am_call z _) m1).trans ?_
      rw [am_call_s, am_toN]
  by_cases z16 : k = 3 ∧ v = 16
  · obtain ⟨zk, zv⟩ := z16
    have t3 := (g.t3 zk).2.1
    obtain ⟨C2, M2, J2, a1, a2, a3, a4, a5, q2, a6, a7, a8⟩ := st_sheet (Jc := Jc) g zk hP hla hlb d e
    refine ⟨C2, M2, J2, ?_, ?_, a3, a4, a5, q2, by omega, a7, fun z => ⟨a6, a8 z⟩⟩
    · rw [c0, if_pos zk, t3, zv]
      refine (c_S16 _ _).trans ((congrArg (fun z => am_call z _) a1).trans ?_)
      rw [am_call_s, am_toN, b74_224]
    · have m1 : am_G (am_ev (e + 11)) 200 [.ref 0] (M, J, tm_R, tm_S, 77, 21637) = some (none, (M2, J2, tm_R, tm_S, 77, 21637)) := by
        rw [m_O g (e + 9), if_neg z12, if_neg z14, if_pos ⟨zk, zv⟩]
        refine (congrArg (fun z => am_call z _) a2).trans ?_
        rw [am_call_s, am_toN, b200_48, b200_94]
      rw [m_S g (e + 9), if_neg z0, if_neg z3, if_neg z7, if_neg z9, if_neg z10, if_neg z11]
      refine (congrArg (fun z => am_call z _) m1).trans ?_
      rw [am_call_s, am_toN]
  by_cases z18 : k = 3 ∧ v = 18
  · obtain ⟨zk, zv⟩ := z18
    have t3 := (g.t3 zk).2.1
    obtain ⟨C2, M2, J2, a1, a2, a3, a4, a5, q2, a6, a7, a8⟩ := st_rests (Jc := Jc) g zk hP hla hlb d e
    refine ⟨C2, M2, J2, ?_, ?_, a3, a4, a5, q2, by omega, a7, fun z => ⟨a6, a8 z⟩⟩
    · rw [c0, if_pos zk, t3, zv]
      refine (c_S18 _ _).trans ((congrArg (fun z => am_call z _) a1).trans ?_)
      rw [am_call_s, am_toN, b74_231]
    · have m1 : am_G (am_ev (e + 11)) 200 [.ref 0] (M, J, tm_R, tm_S, 77, 21637) = some (none, (M2, J2, tm_R, tm_S, 77, 21637)) := by
        rw [m_O g (e + 9), if_neg z12, if_neg z14, if_neg z16, if_pos ⟨zk, zv⟩]
        refine (congrArg (fun z => am_call z _) a2).trans ?_
        rw [am_call_s, am_toN, b200_65, b200_94]
      rw [m_S g (e + 9), if_neg z0, if_neg z3, if_neg z7, if_neg z9, if_neg z10, if_neg z11]
      refine (congrArg (fun z => am_call z _) m1).trans ?_
      rw [am_call_s, am_toN]
  by_cases z19 : k = 3 ∧ v = 19
  · obtain ⟨zk, zv⟩ := z19
    have t3 := (g.t3 zk).2.1
    obtain ⟨C2, M2, J2, a1, a2, a3, a4, a5, q2, a6, a7, a8⟩ := hl T n x C M J Jc p q k v w N la lb g zk hP hla hlb d e
    refine ⟨C2, M2, J2, ?_, ?_, a3, a4, a5, q2, by omega, a7, fun z => ⟨a6, a8 z⟩⟩
    · rw [c0, if_pos zk, t3, zv]
      refine (c_S19 _ _).trans ((congrArg (fun z => am_call z _) a1).trans ?_)
      rw [am_call_s, am_toN, b74_238]
    · have m1 : am_G (am_ev (e + 11)) 200 [.ref 0] (M, J, tm_R, tm_S, 77, 21637) = some (none, (M2, J2, tm_R, tm_S, 77, 21637)) := by
        rw [m_O g (e + 9), if_neg z12, if_neg z14, if_neg z16, if_neg z18, if_pos ⟨zk, zv⟩]
        refine (congrArg (fun z => am_call z _) a2).trans ?_
        rw [am_call_s, am_toN, b200_82, b200_94]
      rw [m_S g (e + 9), if_neg z0, if_neg z3, if_neg z7, if_neg z9, if_neg z10, if_neg z11]
      refine (congrArg (fun z => am_call z _) m1).trans ?_
      rw [am_call_s, am_toN]
  have c1 := g.failC (Jc := Jc) (x := x) (d + 59) 1
  have m1 := g.failM (e + 9) 1
  refine ⟨Fc C 1 p, Fmm M 1 p, J, ?_, ?_, (Fc_f C 1 p).rc, (Fmm_f M 1 p).rm, RJ.rf, p, Nat.le_refl _, g.fsy (by omega) (by omega), fun z => absurd z (by rw [Fmm_8]; decide)⟩
  · have key : ∀ j, j < 32 → ¬ (k = 3 ∧ v = j) → ∀ cc : Int32, cc = nI j → ¬ (if k = 3 then C 1 5 else -1) = cc := by
      intro j hj hz cc hcc
      by_cases zk : k = 3
      · obtain ⟨t1, t2, _⟩ := g.t3 zk
        rw [if_pos zk, t2, hcc]
        exact fun y => hz ⟨zk, (nI_eq (by omega) (by omega)).mp y⟩
      · rw [if_neg zk, hcc]
        exact fun y => nI_ne (by omega) y.symm
    rw [c0]
    refine (c_noS _ _ _ (key 0 (by omega) z0 0 rfl) (key 3 (by omega) z3 3 rfl) (key 7 (by omega) z7 7 rfl) (key 9 (by omega) z9 9 rfl) (key 10 (by omega) z10 10 rfl) (key 11 (by omega) z11 11 rfl) (key 12 (by omega) z12 12 rfl) (key 14 (by omega) z14 14 rfl) (key 16 (by omega) z16 16 rfl) (key 18 (by omega) z18 18 rfl) (key 19 (by omega) z19 19 rfl)).trans ((congrArg (fun z => am_call z _) c1).trans ?_)
    rw [am_call_s, am_toN]
  · have m2 : am_G (am_ev (e + 11)) 200 [.ref 0] (M, J, tm_R, tm_S, 77, 21637) = some (none, (Fmm M 1 p, J, tm_R, tm_S, 77, 21637)) := by
      rw [m_O g (e + 9), if_neg z12, if_neg z14, if_neg z16, if_neg z18, if_neg z19]
      refine (congrArg (fun z => am_call z _) m1).trans ?_
      rw [am_call_s, am_toN, b200_94]
    rw [m_S g (e + 9), if_neg z0, if_neg z3, if_neg z7, if_neg z9, if_neg z10, if_neg z11]
    refine (congrArg (fun z => am_call z _) m2).trans ?_
    rw [am_call_s, am_toN]
/-- one statement with its end -/
theorem stm1 (hl : LawOK) (g : Gd T n C M J p q k v w) (hk1 : k ≠ 1) (hP : PL x N la lb C M J) (hla : la ≤ p) (hlb : lb ≤ p) (d e : Nat) (c : Int32) (hc : ¬ 1600 ≤ c) : ∃ C' M' J', am_ev (d + 61) 74 33 [.ref 1, .int c] [] (C, Jc, (tc_R x), tc_S, 289, 11479) = am_ev (d + 61) 74 33 [.ref 1, .int (c + 1)] [] (C', Jc, (tc_R x), tc_S, 289, 11479) ∧ am_G (am_ev (e + 12)) 199 [.ref 0] (M, J, tm_R, tm_S, 77, 21637) = some (none, (M', J', tm_R, tm_S, 77, 21637)) ∧ RC (!x) C C' ∧ RM (!x) M M' ∧ RJ (!x) J J' ∧ ∃ q', p ≤ q' ∧ Sy T n q' C' M' J' ∧ (M' 0 8 = 0 → p + 2 ≤ q' ∧ ∃ N' la' lb', PL x N' la' lb' C' M' J' ∧ la' ≤ q' ∧ lb' ≤ q') := by
  obtain ⟨C2, M2, J2, a1, a2, a3, a4, a5, q2, a6, a7, a8⟩ := stm0 (Jc := Jc) hl g hk1 hP hla hlb d e c hc
  have ms : ∀ {M3 : tI} {J3 : tJ}, (M2 0 8 = 0 → am_G (am_ev (e + 11)) 167 [.ref 0, .int 59] (M2, J2, tm_R, tm_S, 77, 21637) = some (none, (M3, J3, tm_R, tm_S, 77, 21637))) → (¬ M2 0 8 = 0 → M3 = M2 ∧ J3 = J2) → am_G (am_ev (e + 12)) 199 [.ref 0] (M, J, tm_R, tm_S, 77, 21637) = some (none, (M3, J3, tm_R, tm_S, 77, 21637)) := by
    intro M3 J3 h1 h2
    rw [a2, b199_106]
    by_cases z : M2 0 8 = 0
    · rw [if_pos z, h1 z, am_call_s, am_toN, b199_119]
    · obtain ⟨e1, e2⟩ := h2 z
      rw [if_neg z, b199_119, e1, e2]
  obtain ⟨C3, M3, J3, r1, r2, r3, r4, r5, r6, r7, r8⟩ := a7.sign (Jc := Jc) (x := x) (j := 59) (by decide) (d + 57) (e + 8)
  have cS : am_ev (d + 61) 74 33 [.ref 1, .int c] [] (C, Jc, (tc_R x), tc_S, 289, 11479) = am_ev (d + 61) 74 33 [.ref 1, .int (c + 1)] [] (C3, Jc, (tc_R x), tc_S, 289, 11479) := by
    rw [a1, b74_250]
    refine (congrArg (fun z => am_call z _) r1).trans ?_
    rw [am_call_s, am_toN, b74_257]
  by_cases z2 : M2 0 8 = 0
  · obtain ⟨p2, q3, k3, v3, w3, g2, hq2⟩ := a7.gd z2
    obtain ⟨b1, N', la', lb', b2, b3, b4⟩ := a8 z2
    have key : ∃ C3 M3 J3, am_G (am_ev (d + 60)) 80 [.ref 1, .int 5, .int (nI 59)] (C2, Jc, (tc_R x), tc_S, 289, 11479) = some (none, (C3, Jc, (tc_R x), tc_S, 289, 11479)) ∧ am_G (am_ev (e + 11)) 167 [.ref 0, .int (nI 59)] (M2, J2, tm_R, tm_S, 77, 21637) = some (none, (M3, J3, tm_R, tm_S, 77, 21637)) ∧ TF C2 C3 ∧ MF M2 M3 ∧ JF J2 J3 ∧ Sy T n q2 C3 M3 J3 ∧ (M3 0 8 = 0 → Sy T n (q2 + 1) C3 M3 J3) := by
      by_cases zs : k3 = 5 ∧ v3 = 59
      · obtain ⟨C', M', J', x1, x2, x3, x4, x5, x6, _⟩ := g2.go (Jc := Jc) (x := x) (by omega) (by omega) (d + 57) (e + 8)
        refine ⟨C', M', J', ?_, ?_, x3, x4, x5, x6.mono (by omega), fun _ => x6.mono (by omega)⟩
        · rw [b80_0, g2.at5C (by decide), am_call_s, am_toL, b80_6, am_b1 zs, if_neg (by decide : ¬ (1 : Int32) = 0)]
          refine (congrArg (fun z => am_call z _) x1).trans ?_
          rw [am_call_s, am_toN, b80_13, b80_25]
        · rw [b167_0, g2.at5M (by decide), am_call_s, am_toL, b167_5, am_b1 zs, if_neg (by decide : ¬ (1 : Int32) = 0), b167_17, if_pos g2.m8]
          refine (congrArg (fun z => am_call z _) x2).trans ?_
          rw [am_call_s, am_toN, b167_28]
      · have x1 := g2.failC (Jc := Jc) (x := x) (d + 58) 1
        have x2 := g2.failM (e + 9) 1
        refine ⟨Fc C2 1 p2, Fmm M2 1 p2, J2, ?_, ?_, Fc_f C2 1 p2, Fmm_f M2 1 p2, JF.rf J2, g2.fsy (by omega) (by omega), fun z => absurd z (by rw [Fmm_8]; decide)⟩
        · rw [b80_0, g2.at5C (by decide), am_call_s, am_toL, b80_6, am_b0 zs, if_pos rfl]
          refine (congrArg (fun z => am_call z _) x1).trans ?_
          rw [am_call_s, am_toN, b80_25]
        · rw [b167_0, g2.at5M (by decide), am_call_s, am_toL, b167_5, am_b0 zs, if_pos rfl]
          refine (congrArg (fun z => am_call z _) x2).trans ?_
          rw [am_call_s, am_toN, b167_17, Fmm_8, if_neg (by decide), b167_28]
    obtain ⟨D, M4, J4, s1, s2, s3, s4, s5, s6, s7⟩ := key
    have cS2 : am_ev (d + 61) 74 33 [.ref 1, .int c] [] (C, Jc, (tc_R x), tc_S, 289, 11479) = am_ev (d + 61) 74 33 [.ref 1, .int (c + 1)] [] (D, Jc, (tc_R x), tc_S, 289, 11479) := by
      rw [a1, b74_250]
      refine (congrArg (fun z => am_call z _) s1).trans ?_
      rw [am_call_s, am_toN, b74_257]
    by_cases z4 : M4 0 8 = 0
    · exact ⟨D, M4, J4, cS2, ms (fun _ => s2) (fun z => absurd z2 z), a3.tr s3.rc, a4.tr s4.rm, a5.tr s5.rj, q2 + 1, by omega, s7 z4, fun _ => ⟨by omega, N', la', lb', b2.tf s3 s4 s5, by omega, by omega⟩⟩
    · exact ⟨D, M4, J4, cS2, ms (fun _ => s2) (fun z => absurd z2 z), a3.tr s3.rc, a4.tr s4.rm, a5.tr s5.rj, q2, by omega, s6, fun z => absurd z z4⟩
  · obtain ⟨e1, e2⟩ := r3 z2
    subst e1; subst e2
    exact ⟨C3, M3, J3, cS, ms r2 (fun _ => ⟨rfl, rfl⟩), a3.tr r4.rc, a4.tr r5.rm, a5.tr r6.rj, q2, a6, r7, fun z => absurd z z2⟩
end DSP
