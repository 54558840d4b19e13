/-! LAWS: the class when the text is at fault: it only has to come to its end -/
def BdL (x : Bool) (C M : tI) : Prop := Bd C M ∧ ∃ u, u ≤ 1600 ∧ C (tc_P (!x) + 33) 2 = nI u
/-- what reading a law changes in the class -/
def RLw (x : Bool) (C C' : tI) : Prop := ∀ a b, ¬ (a = 1 ∧ 3 ≤ b) → ¬ (a = tc_P (!x) + 33 ∧ b = 2) → a ≠ tc_P (!x) + 34 → C' a b = C a b
section LBD
variable {x : Bool} {C M C' M' : tI} {J J' Jc : tJ}
theorem RLw.rf : RLw x C C := fun _ _ _ _ _ => rfl
theorem RLw.tr {C2 : tI} (h : RLw x C C') (h2 : RLw x C' C2) : RLw x C C2 := fun a b z1 z2 z3 => (h2 a b z1 z2 z3).trans (h a b z1 z2 z3)
theorem TF.rl (h : TF C C') : RLw x C C' := fun a b z1 _ _ => h a b (fun e => by omega)
theorem RLw.em (h : RLw x C C') (u : Nat) (v1 v2 : Int32) : RLw x C (am_u2 (am_u2 C' (tc_P (!x) + 34) u v1) (tc_P (!x) + 33) 2 v2) := fun a b z1 z2 z3 => by
  rw [fr1 (by omega), u2_c z3]; exact h a b z1 z2 z3
theorem RLw.rc (h : RLw x C C') : RC (!x) C C' := fun a b z1 z2 => h a b z1 (fun z => z2 (by omega)) (fun z => z2 (by omega))
theorem BdL.tf (h : BdL x C M) (hT : TF C C') (hb : Bd C' M) : BdL x C' M := by
  have hy := tc_P4 (!x)
  obtain ⟨_, u, h1, h2⟩ := h
  exact ⟨hb, u, h1, by rw [hT _ _ (fun z => by omega)]; exact h2⟩
theorem BdL.em (h : BdL x C M) (v : Int32) (d : Nat) : ∃ C', am_G (am_ev (d + 1)) 41 [.ref (tc_P (!x) + 33), .int v] (C, Jc, (tc_R x), tc_S, 289, 11479) = some (none, (C', Jc, (tc_R x), tc_S, 289, 11479)) ∧ RLw x C C' ∧ BdL x C' M := by
  have hy := tc_P4 (!x)
  obtain ⟨hb, u, h1, h2⟩ := h
  by_cases z : u < 1600
  · refine ⟨_, c_em0 h2 z v d, RLw.rf.em _ _ _, ⟨hb.wr (fun b => by rw [u2_c (by omega), u2_c (by omega)]) (fun _ _ => rfl), u + 1, by omega, u2_s⟩⟩
  · obtain rfl : u = 1600 := by omega
    refine ⟨C, ?_, RLw.rf, ⟨hb, 1600, by omega, h2⟩⟩
    rw [b41_0, h2, if_pos (by decide : (1600 : Int32) ≤ nI 1600)]
theorem BdL.op (h : BdL x C M) (s o : Int32) (d : Nat) : ∃ C', am_G (am_ev (d + 2)) 100 [.ref 1, .int s, .int o] (C, Jc, (tc_R x), tc_S, 289, 11479) = some (some (.int 0), (C', Jc, (tc_R x), tc_S, 289, 11479)) ∧ RLw x C C' ∧ BdL x C' M := by
  obtain ⟨C', a1, a2, a3, a4⟩ := h.1.failC (Jc := Jc) (x := x) d
  refine ⟨C', ?_, a2.rl, h.tf a2 a3⟩
  rw [b100_0, h.1.atC (by decide), am_call_s, am_toL, b100_6, if_pos rfl, a1, am_call_s, am_toN, b100_18, b100_43, if_neg a4]
theorem BdL.tk (h : BdL x C M) {c : Int32} (hc : ¬ 0 = c) (u : Int32) (d : Nat) : ∃ C', am_G (am_ev (d + 2)) 80 [.ref 1, .int c, .int u] (C, Jc, (tc_R x), tc_S, 289, 11479) = some (none, (C', Jc, (tc_R x), tc_S, 289, 11479)) ∧ RLw x C C' ∧ BdL x C' M := by
  obtain ⟨C', a1, a2, a3, a4⟩ := h.1.tk (Jc := Jc) (x := x) hc u d
  exact ⟨C', a1, a2.rl, h.tf a2 a3⟩
theorem BdL.fac (h : BdL x C M) (o : Int32) (d : Nat) : ∃ C', am_G (am_ev (d + 3)) 103 [.ref 1, .int o] (C, Jc, (tc_R x), tc_S, 289, 11479) = some (none, (C', Jc, (tc_R x), tc_S, 289, 11479)) ∧ RLw x C C' ∧ BdL x C' M := by
  obtain ⟨C', a1, a2, a3⟩ := h.op (Jc := Jc) 40 o d
  refine ⟨C', ?_, a2, a3⟩
  rw [b103_0, h.1.c4, if_neg (by decide), if_neg (by decide), b103_71, h.1.c4, if_neg (by decide), a1, am_call_s, am_toL, b103_123, if_pos rfl, b103_140]
theorem BdL.pr7 (h : BdL x C M) (o c : Int32) (v3 : Value) (d : Nat) : am_ev (d + 4) 102 7 [.ref 1, .int o, .int c, v3] [] (C, Jc, (tc_R x), tc_S, 289, 11479) = some (none, (C, Jc, (tc_R x), tc_S, 289, 11479)) := by
  rw [b102_7]
  split
  · rfl
  · rw [h.1.atC (by decide), am_call_s, am_toL, b102_21, if_pos rfl, h.1.atC (by decide), am_call_s, am_toL, b102_31, if_pos rfl, h.1.atC (by decide), am_call_s, am_toL, b102_41, if_pos rfl]
theorem BdL.prd (h : BdL x C M) (o : Int32) (d : Nat) : ∃ C', am_G (am_ev (d + 4)) 102 [.ref 1, .int o] (C, Jc, (tc_R x), tc_S, 289, 11479) = some (none, (C', Jc, (tc_R x), tc_S, 289, 11479)) ∧ RLw x C C' ∧ BdL x C' M := by
  obtain ⟨C', a1, a2, a3⟩ := h.fac (Jc := Jc) o d
  exact ⟨C', by rw [b102_0, a1, am_call_s, am_toN, b102_5, a3.pr7], a2, a3⟩
/-- behind an operator of a product -/
theorem BdL.pr53 (h : BdL x C M) (o c w : Int32) (d : Nat) : ∃ C', am_ev (d + 4) 102 53 [.ref 1, .int o, .int c, .int w] [] (C, Jc, (tc_R x), tc_S, 289, 11479) = some (none, (C', Jc, (tc_R x), tc_S, 289, 11479)) ∧ RLw x C C' ∧ BdL x C' M := by
  obtain ⟨C', a1, a2, a3⟩ := h.fac (Jc := Jc) o d
  obtain ⟨C2, b1, b2, b3⟩ := a3.em (Jc := Jc) (w ^^^ (-1)) (d + 2)
  exact ⟨C2, by rw [b102_53, a1, am_call_s, am_toN, b102_58, b1, am_call_s, am_toN, b102_71, b3.pr7], a2.tr b2, b3⟩
theorem BdL.sm7 (h : BdL x C M) (o c : Int32) (v3 : Value) (d : Nat) : am_ev (d + 5) 101 7 [.ref 1, .int o, .int c, v3] [] (C, Jc, (tc_R x), tc_S, 289, 11479) = some (none, (C, Jc, (tc_R x), tc_S, 289, 11479)) := by
  rw [b101_7]
  split
  · rfl
  · rw [h.1.atC (by decide), am_call_s, am_toL, b101_21, if_pos rfl, h.1.atC (by decide), am_call_s, am_toL, b101_31, if_pos rfl]
theorem BdL.sum (h : BdL x C M) (o : Int32) (d : Nat) : ∃ C', am_G (am_ev (d + 5)) 101 [.ref 1, .int o] (C, Jc, (tc_R x), tc_S, 289, 11479) = some (none, (C', Jc, (tc_R x), tc_S, 289, 11479)) ∧ RLw x C C' ∧ BdL x C' M := by
  obtain ⟨C', a1, a2, a3⟩ := h.prd (Jc := Jc) o d
  exact ⟨C', by rw [b101_0, a1, am_call_s, am_toN, b101_5, a3.sm7], a2, a3⟩
theorem BdL.sm43 (h : BdL x C M) (o c w : Int32) (d : Nat) : ∃ C', am_ev (d + 5) 101 43 [.ref 1, .int o, .int c, .int w] [] (C, Jc, (tc_R x), tc_S, 289, 11479) = some (none, (C', Jc, (tc_R x), tc_S, 289, 11479)) ∧ RLw x C C' ∧ BdL x C' M := by
  obtain ⟨C', a1, a2, a3⟩ := h.prd (Jc := Jc) o d
  obtain ⟨C2, b1, b2, b3⟩ := a3.em (Jc := Jc) (w ^^^ (-1)) (d + 3)
  exact ⟨C2, by rw [b101_43, a1, am_call_s, am_toN, b101_48, b1, am_call_s, am_toN, b101_61, b3.sm7], a2.tr b2, b3⟩
/-- a pair, and the factor that it is -/
theorem BdL.pair (h : BdL x C M) (o : Int32) (d : Nat) : ∃ C', am_G (am_ev (d + 3)) 104 [.ref 1, .int o] (C, Jc, (tc_R x), tc_S, 289, 11479) = some (none, (C', Jc, (tc_R x), tc_S, 289, 11479)) ∧ RLw x C C' ∧ BdL x C' M := by
  obtain ⟨C', a1, a2, a3⟩ := h.op (Jc := Jc) 40 o d
  exact ⟨C', by rw [b104_0, a1, am_call_s, am_toL, b104_7, if_pos rfl, b104_38], a2, a3⟩
theorem BdL.pa31 (h : BdL x C M) (v1 : Value) (d : Nat) : ∃ C', am_ev (d + 3) 104 31 [.ref 1, v1] [] (C, Jc, (tc_R x), tc_S, 289, 11479) = some (none, (C', Jc, (tc_R x), tc_S, 289, 11479)) ∧ RLw x C C' ∧ BdL x C' M := by
  obtain ⟨C', a1, a2, a3⟩ := h.tk (Jc := Jc) (c := 5) (by decide) 41 d
  exact ⟨C', by rw [b104_31, a1, am_call_s, am_toN, b104_38], a2, a3⟩
theorem BdL.pa24 (h : BdL x C M) (o : Int32) (d : Nat) : ∃ C', am_ev (d + 6) 104 24 [.ref 1, .int o] [] (C, Jc, (tc_R x), tc_S, 289, 11479) = some (none, (C', Jc, (tc_R x), tc_S, 289, 11479)) ∧ RLw x C C' ∧ BdL x C' M := by
  obtain ⟨C', a1, a2, a3⟩ := h.sum (Jc := Jc) (o + 1) d
  obtain ⟨C2, b1, b2, b3⟩ := a3.pa31 (Jc := Jc) (.int o) (d + 3)
  exact ⟨C2, by rw [b104_24, a1, am_call_s, am_toN]; exact b1, a2.tr b2, b3⟩
theorem BdL.pa17 (h : BdL x C M) (o : Int32) (d : Nat) : ∃ C', am_ev (d + 6) 104 17 [.ref 1, .int o] [] (C, Jc, (tc_R x), tc_S, 289, 11479) = some (none, (C', Jc, (tc_R x), tc_S, 289, 11479)) ∧ RLw x C C' ∧ BdL x C' M := by
  obtain ⟨C', a1, a2, a3⟩ := h.tk (Jc := Jc) (c := 5) (by decide) 44 (d + 3)
  obtain ⟨C2, b1, b2, b3⟩ := a3.pa24 (Jc := Jc) o d
  exact ⟨C2, by rw [b104_17, a1, am_call_s, am_toN]; exact b1, a2.tr b2, b3⟩
theorem BdL.fa100 (h : BdL x C M) (v1 : Value) (w : Int32) (d : Nat) : ∃ C', am_ev (d + 2) 103 100 [.ref 1, v1, .int w] [] (C, Jc, (tc_R x), tc_S, 289, 11479) = some (none, (C', Jc, (tc_R x), tc_S, 289, 11479)) ∧ RLw x C C' ∧ BdL x C' M := by
  obtain ⟨C', a1, a2, a3⟩ := h.em (Jc := Jc) (w ^^^ (-1)) d
  exact ⟨C', by rw [b103_100, a1, am_call_s, am_toN, b103_113, b103_140], a2, a3⟩
/-! facts -/
theorem BdL.f135 (h : BdL x C M) (v1 v3 : Value) (w : Int32) (d : Nat) : ∃ C', am_ev (d + 2) 98 135 [.ref 1, v1, .int w, v3] [] (C, Jc, (tc_R x), tc_S, 289, 11479) = some (none, (C', Jc, (tc_R x), tc_S, 289, 11479)) ∧ RLw x C C' ∧ BdL x C' M := by
  by_cases z : w = 0
  · exact ⟨C, by rw [b98_135, if_pos z, b98_151], RLw.rf, h⟩
  · obtain ⟨C', a1, a2, a3⟩ := h.em (Jc := Jc) (-24) d
    exact ⟨C', by rw [b98_135, if_neg z, a1, am_call_s, am_toN, b98_151], a2, a3⟩
theorem BdL.f122 (h : BdL x C M) (v1 : Value) (w s : Int32) (d : Nat) : ∃ C', am_ev (d + 2) 98 122 [.ref 1, v1, .int w, .int s] [] (C, Jc, (tc_R x), tc_S, 289, 11479) = some (none, (C', Jc, (tc_R x), tc_S, 289, 11479)) ∧ RLw x C C' ∧ BdL x C' M := by
  obtain ⟨C', a1, a2, a3⟩ := h.em (Jc := Jc) (s ^^^ (-1)) d
  obtain ⟨C2, b1, b2, b3⟩ := a3.f135 (Jc := Jc) v1 (.int s) w d
  exact ⟨C2, by rw [b98_122, a1, am_call_s, am_toN]; exact b1, a2.tr b2, b3⟩
theorem BdL.f116 (h : BdL x C M) (o w s : Int32) (v3 : Value) (d : Nat) : ∃ C', am_ev (d + 6) 98 116 [.ref 1, .int o, .int w, v3] [.int s] (C, Jc, (tc_R x), tc_S, 289, 11479) = some (none, (C', Jc, (tc_R x), tc_S, 289, 11479)) ∧ RLw x C C' ∧ BdL x C' M := by
  obtain ⟨C', a1, a2, a3⟩ := h.sum (Jc := Jc) o d
  obtain ⟨C2, b1, b2, b3⟩ := a3.f122 (Jc := Jc) (.int o) w s (d + 4)
  exact ⟨C2, by rw [b98_116, a1, am_call_s, am_toN]; exact b1, a2.tr b2, b3⟩
theorem BdL.f112 (h : BdL x C M) (o w : Int32) (v3 : Value) (d : Nat) : ∃ C', am_ev (d + 6) 98 112 [.ref 1, .int o, .int w, v3] [] (C, Jc, (tc_R x), tc_S, 289, 11479) = some (none, (C', Jc, (tc_R x), tc_S, 289, 11479)) ∧ RLw x C C' ∧ BdL x C' M := by
  obtain ⟨C', a1, a2, a3, a4⟩ := h.1.failC (Jc := Jc) (x := x) (d + 3)
  obtain ⟨C2, b1, b2, b3⟩ := (h.tf a2 a3).f116 (Jc := Jc) o w (C 1 5) v3 d
  exact ⟨C2, by rw [b98_112, b99_0, h.1.c4, if_neg (by decide), a1, am_call_s, am_toN, b99_47, am_call_s, am_toL]; exact b1, a2.rl.tr b2, b3⟩
theorem BdL.f4 (h : BdL x C M) (o w c : Int32) (d : Nat) : ∃ C', am_ev (d + 6) 98 4 [.ref 1, .int o, .int w, .int c] [] (C, Jc, (tc_R x), tc_S, 289, 11479) = some (none, (C', Jc, (tc_R x), tc_S, 289, 11479)) ∧ RLw x C C' ∧ BdL x C' M := by
  obtain ⟨C', a1, a2, a3⟩ := h.sum (Jc := Jc) o d
  obtain ⟨C2, b1, b2, b3⟩ := a3.f112 (Jc := Jc) o w (.int c) d
  refine ⟨C2, ?_, a2.tr b2, b3⟩
  have e : am_call (am_G (am_ev (d + 5)) 79 [.ref 1, .int 5, .int 91] (C, Jc, (tc_R x), tc_S, 289, 11479)) (fun r M => am_ev (d + 6) 98 48 [.ref 1, .int o, .int w, .int c] (r.toList ++ []) M) = some (none, (C2, Jc, (tc_R x), tc_S, 289, 11479)) := by
    rw [h.1.atC (by decide), am_call_s, am_toL, b98_48, if_pos rfl, h.1.atC (by decide), am_call_s, am_toL, b98_85, if_pos rfl, a1, am_call_s, am_toN]; exact b1
  rw [b98_4]
  split
  · exact e
  · rw [h.1.atC (by decide), am_call_s, am_toL, b98_18, if_pos rfl]; exact e
theorem BdL.fct (h : BdL x C M) (o : Int32) (d : Nat) : ∃ C', am_G (am_ev (d + 6)) 98 [.ref 1, .int o] (C, Jc, (tc_R x), tc_S, 289, 11479) = some (none, (C', Jc, (tc_R x), tc_S, 289, 11479)) ∧ RLw x C C' ∧ BdL x C' M := by
  rw [b98_0]; exact h.f4 o 0 0 d
theorem BdL.bo7 (h : BdL x C M) (o c : Int32) (d : Nat) : am_ev (d + 7) 97 7 [.ref 1, .int o, .int c] [] (C, Jc, (tc_R x), tc_S, 289, 11479) = some (none, (C, Jc, (tc_R x), tc_S, 289, 11479)) := by
  rw [b97_7]
  split
  · rfl
  · rw [h.1.atC (by decide), am_call_s, am_toL, b97_21, if_pos rfl]
theorem BdL.bth (h : BdL x C M) (o : Int32) (d : Nat) : ∃ C', am_G (am_ev (d + 7)) 97 [.ref 1, .int o] (C, Jc, (tc_R x), tc_S, 289, 11479) = some (none, (C', Jc, (tc_R x), tc_S, 289, 11479)) ∧ RLw x C C' ∧ BdL x C' M := by
  obtain ⟨C', a1, a2, a3⟩ := h.fct (Jc := Jc) o d
  exact ⟨C', by rw [b97_0, a1, am_call_s, am_toN, b97_5, a3.bo7], a2, a3⟩
theorem BdL.bo28 (h : BdL x C M) (o c : Int32) (d : Nat) : ∃ C', am_ev (d + 7) 97 28 [.ref 1, .int o, .int c] [] (C, Jc, (tc_R x), tc_S, 289, 11479) = some (none, (C', Jc, (tc_R x), tc_S, 289, 11479)) ∧ RLw x C C' ∧ BdL x C' M := by
  obtain ⟨C', a1, a2, a3⟩ := h.fct (Jc := Jc) o d
  obtain ⟨C2, b1, b2, b3⟩ := a3.em (Jc := Jc) (-23) (d + 5)
  exact ⟨C2, by rw [b97_28, a1, am_call_s, am_toN, b97_33, b1, am_call_s, am_toN, b97_45, b3.bo7], a2.tr b2, b3⟩
theorem BdL.te7 (h : BdL x C M) (o c : Int32) (d : Nat) : am_ev (d + 8) 96 7 [.ref 1, .int o, .int c] [] (C, Jc, (tc_R x), tc_S, 289, 11479) = some (none, (C, Jc, (tc_R x), tc_S, 289, 11479)) := by
  rw [b96_7]
  split
  · rfl
  · rw [h.1.atC (by decide), am_call_s, am_toL, b96_21, if_pos rfl]
theorem BdL.tst (h : BdL x C M) (o : Int32) (d : Nat) : ∃ C', am_G (am_ev (d + 8)) 96 [.ref 1, .int o] (C, Jc, (tc_R x), tc_S, 289, 11479) = some (none, (C', Jc, (tc_R x), tc_S, 289, 11479)) ∧ RLw x C C' ∧ BdL x C' M := by
  obtain ⟨C', a1, a2, a3⟩ := h.bth (Jc := Jc) o d
  exact ⟨C', by rw [b96_0, a1, am_call_s, am_toN, b96_5, a3.te7], a2, a3⟩
theorem BdL.te28 (h : BdL x C M) (o c : Int32) (d : Nat) : ∃ C', am_ev (d + 8) 96 28 [.ref 1, .int o, .int c] [] (C, Jc, (tc_R x), tc_S, 289, 11479) = some (none, (C', Jc, (tc_R x), tc_S, 289, 11479)) ∧ RLw x C C' ∧ BdL x C' M := by
  obtain ⟨C', a1, a2, a3⟩ := h.bth (Jc := Jc) o d
  obtain ⟨C2, b1, b2, b3⟩ := a3.em (Jc := Jc) (-22) (d + 6)
  exact ⟨C2, by rw [b96_28, a1, am_call_s, am_toN, b96_33, b1, am_call_s, am_toN, b96_45, b3.te7], a2.tr b2, b3⟩
/-- behind the test in a bracket, and behind the sum in a bracket -/
theorem BdL.f68 (h : BdL x C M) (v1 v3 : Value) (w : Int32) (d : Nat) : ∃ C', am_ev (d + 3) 98 68 [.ref 1, v1, .int w, v3] [] (C, Jc, (tc_R x), tc_S, 289, 11479) = some (none, (C', Jc, (tc_R x), tc_S, 289, 11479)) ∧ RLw x C C' ∧ BdL x C' M := by
  obtain ⟨C', a1, a2, a3⟩ := h.tk (Jc := Jc) (c := 5) (by decide) 93 d
  obtain ⟨C2, b1, b2, b3⟩ := a3.f135 (Jc := Jc) v1 v3 w (d + 1)
  exact ⟨C2, by rw [b98_68, a1, am_call_s, am_toN, b98_75]; exact b1, a2.tr b2, b3⟩
theorem BdL.fa133 (h : BdL x C M) (v1 v2 : Value) (d : Nat) : ∃ C', am_ev (d + 3) 103 133 [.ref 1, v1, v2] [] (C, Jc, (tc_R x), tc_S, 289, 11479) = some (none, (C', Jc, (tc_R x), tc_S, 289, 11479)) ∧ RLw x C C' ∧ BdL x C' M := by
  obtain ⟨C', a1, a2, a3⟩ := h.tk (Jc := Jc) (c := 5) (by decide) 41 d
  exact ⟨C', by rw [b103_133, a1, am_call_s, am_toN, b103_140], a2, a3⟩
end LBD
