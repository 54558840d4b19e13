/-! LAWS: the model's operands and closings, one by one (printed by genlaw3.py) -/
section MOP
variable {T : Nat → Nat} {n p q k v o f m : Nat} {w : List Nat} {x : Bool} {C M M2 M3 M4 : tI} {J J2 J4 Jc : tJ} {e : Nat}
theorem Gd.uM (g : Gd T n C M J p q k v w) {c i : Nat} (hc : 2 ≤ c) (u : Int32) : Gd T n C (am_u2 M c i u) J p q k v w := g.wr (fun _ _ _ _ => rfl) (fun b _ => u2_c (by omega)) (fun b => u2_c (by omega)) rfl
theorem Gd.u0 (g : Gd T n C M J p q k v w) {i : Nat} (hi : 9 < i) (u : Int32) : Gd T n C (am_u2 M 0 i u) J p q k v w := g.wr (fun _ _ _ _ => rfl) (fun b hb => u2_p (by omega)) (fun b => u2_c (by omega)) rfl
theorem m_op33 (h57 : M 0 57 = nI (o + 1)) (ho : o ≤ 9) : ∃ s, am_G (am_ev (e + 5)) 180 [.ref 0] (M, J, tm_R, tm_S, 77, 21637) = am_ev (e + 5) 180 33 [.ref 0, .int (nI o), am_un, am_un] [.int s] (M, J, tm_R, tm_S, 77, 21637) ∧ ((s = 1 ∧ (M 39 o = 1 ∨ M 39 o = 5) ∧ ¬ M 41 o = 0) ∨ (s = 0 ∧ ((¬ M 39 o = 1 ∧ ¬ M 39 o = 5) ∨ M 41 o = 0))) := by
  have e57 : M 0 57 - 1 = nI o := by rw [h57]; exact nI_sub (b := 1) (by omega) (by omega)
  have ck : Int32.toNatClampNeg (nI o) = o := nI_clamp (by omega)
  have hi : am_in (nI o) 20 := nI_in (by omega) (by omega)
  obtain ⟨s, t1, t2⟩ := m_isT (e + 3) M J (M 39 o)
  rcases t2 with ⟨rfl, t2⟩ | ⟨rfl, t2⟩
  · by_cases z : M 41 o = 0
    · refine ⟨0, ?_, Or.inr ⟨rfl, Or.inr z⟩⟩
      rw [b180_0, e57, if_pos hi]
      (try simp only [ck])
      rw [t1, am_call_s, am_toL, b180_16, if_neg (by decide : ¬ (1 : Int32) = 0), if_pos hi]
      (try simp only [ck])
      rw [if_pos z, b180_32]
    · refine ⟨1, ?_, Or.inl ⟨rfl, t2, z⟩⟩
      rw [b180_0, e57, if_pos hi]
      (try simp only [ck])
      rw [t1, am_call_s, am_toL, b180_16, if_neg (by decide : ¬ (1 : Int32) = 0), if_pos hi]
      (try simp only [ck])
      rw [if_neg z]
  · refine ⟨0, ?_, Or.inr ⟨rfl, Or.inl t2⟩⟩
    rw [b180_0, e57, if_pos hi]
    (try simp only [ck])
    rw [t1, am_call_s, am_toL, b180_16, if_pos rfl, b180_32]
theorem m_op127 (g : Gd T n C M J p q k v w) (ho : o ≤ 9) {s : Int32} (s01 : s = 0 ∨ s = 1) (hs : s = 0 ∨ (¬ (k = 3 ∧ v = 23) ∧ ¬ (k = 5 ∧ v = 91) ∧ ¬ (k = 3 ∧ v = 24))) : am_ev (e + 5) 180 33 [.ref 0, .int (nI o), am_un, am_un] [.int s] (M, J, tm_R, tm_S, 77, 21637) = am_call (am_G (am_ev (e + 4)) 165 [.ref 0, .int 40] (am_u2 M 41 o 0, J, tm_R, tm_S, 77, 21637)) (fun r M => am_ev (e + 5) 180 127 [.ref 0, .int (nI o), .int s, am_un] (r.toList ++ []) M) := by
  have ck : Int32.toNatClampNeg (nI o) = o := nI_clamp (by omega)
  have hi : am_in (nI o) 20 := nI_in (by omega) (by omega)
  have g1 := g.uM (c := 41) (i := o) (by omega) 0
  rcases s01 with rfl | rfl
  · rw [b180_33, if_pos rfl, b180_60, if_pos ⟨hi, Or.inl rfl⟩, if_pos rfl]
    (try simp only [ck])
    rw [b180_87, if_pos rfl]
  · obtain ⟨n1, n2, n3⟩ := hs.resolve_left (by decide)
    rw [b180_33, if_neg (by decide : ¬ (1 : Int32) = 0), g.wN (c := 7237492) 23 (by omega) rfl n1, am_call_s, am_toL, b180_45, if_pos rfl, b180_60, if_pos ⟨hi, Or.inl rfl⟩, if_neg (by decide : ¬ (1 : Int32) = 0)]
    (try simp only [ck])
    rw [g1.sN (c := 91) 91 rfl (by decide) n2, am_call_s, am_toL, b180_77, if_pos rfl, b180_87, if_neg (by decide : ¬ (1 : Int32) = 0), g1.wN (c := 6384748) 24 (by omega) rfl n3, am_call_s, am_toL, b180_98, if_pos rfl]
theorem m_op154 (g : Gd T n C M J p q k v w) (n1 : ¬ (k = 5 ∧ v = 40)) (n2 : ¬ (k = 3 ∧ v = 30)) (n3 : ¬ (k = 3 ∧ v = 31)) (v1 v2 v3 : Value) : am_call (am_G (am_ev (e + 4)) 165 [.ref 0, .int 40] (M, J, tm_R, tm_S, 77, 21637)) (fun r M => am_ev (e + 5) 180 127 [.ref 0, v1, v2, v3] (r.toList ++ []) M) = am_ev (e + 5) 180 154 [.ref 0, v1, v2, v3] [.int 0] (M, J, tm_R, tm_S, 77, 21637) := by
  rw [g.sN (c := 40) 40 rfl (by decide) n1, am_call_s, am_toL, b180_127, if_pos rfl, g.wN (c := 7170414) 30 (by omega) rfl n2, am_call_s, am_toL, b180_144, if_pos rfl, g.wN (c := 7168376) 31 (by omega) rfl n3, am_call_s, am_toL]
theorem m_op306 (g : Gd T n C M J p q k v w) {s a : Int32} (ha : ¬ a = -1) (v1 v3 : Value) (j1 : am_G (am_ev (e + 4)) 173 [.ref 0, .int a, .int (M 0 6)] (M, J, tm_R, tm_S, 77, 21637) = some (none, (M2, J, tm_R, tm_S, 77, 21637))) (j2 : am_G (am_ev (e + 4)) 164 [.ref 0] (M2, J, tm_R, tm_S, 77, 21637) = some (none, (M4, J4, tm_R, tm_S, 77, 21637))) : am_ev (e + 5) 180 306 [.ref 0, v1, .int s, v3] [.int a] (M, J, tm_R, tm_S, 77, 21637) = some (some (.int 1), (M4, J4, tm_R, tm_S, 77, 21637)) := by
  refine (b180_306 (e + 4) M J v1 (some (.inr s)) v3 a).trans ?_
  rw [if_neg ha, b180_321, if_pos (by rw [g.m8]; decide), j1, am_call_s, am_toN, b180_339, j2, am_call_s, am_toN, b180_343]
theorem m_opN (g : Gd T n C M J p q 4 v w) {s : Int32} (v1 v3 : Value) (j1 : am_G (am_ev (e + 4)) 173 [.ref 0, .int 0, .int (M 0 6)] (M, J, tm_R, tm_S, 77, 21637) = some (none, (M2, J, tm_R, tm_S, 77, 21637))) (j2 : am_G (am_ev (e + 4)) 164 [.ref 0] (M2, J, tm_R, tm_S, 77, 21637) = some (none, (M4, J4, tm_R, tm_S, 77, 21637))) : am_ev (e + 5) 180 154 [.ref 0, v1, .int s, v3] [.int 0] (M, J, tm_R, tm_S, 77, 21637) = some (some (.int 1), (M4, J4, tm_R, tm_S, 77, 21637)) := by
  rw [b180_154, if_pos rfl, if_pos (by rw [g.m3]; rfl)]
  exact m_op306 g (by decide) v1 v3 j1 j2
theorem m_opE25 (g : Gd T n C M J p q 3 25 w) {s : Int32} (v1 v3 : Value) (j1 : am_G (am_ev (e + 4)) 173 [.ref 0, .int 1, .int (M 0 6)] (M, J, tm_R, tm_S, 77, 21637) = some (none, (M2, J, tm_R, tm_S, 77, 21637))) (j2 : am_G (am_ev (e + 4)) 164 [.ref 0] (M2, J, tm_R, tm_S, 77, 21637) = some (none, (M4, J4, tm_R, tm_S, 77, 21637))) : am_ev (e + 5) 180 154 [.ref 0, v1, .int s, v3] [.int 0] (M, J, tm_R, tm_S, 77, 21637) = some (some (.int 1), (M4, J4, tm_R, tm_S, 77, 21637)) := by
  rw [b180_154, if_pos rfl, if_neg (by rw [g.m3]; decide), g.wY (c := 7302244) rfl, am_call_s, am_toL, b180_242, if_neg (by decide : ¬ (1 : Int32) = 0)]
  exact m_op306 g (by decide) v1 v3 j1 j2
theorem m_opE26 (g : Gd T n C M J p q 3 26 w) {s : Int32} (v1 v3 : Value) (j1 : am_G (am_ev (e + 4)) 173 [.ref 0, .int 2, .int (M 0 6)] (M, J, tm_R, tm_S, 77, 21637) = some (none, (M2, J, tm_R, tm_S, 77, 21637))) (j2 : am_G (am_ev (e + 4)) 164 [.ref 0] (M2, J, tm_R, tm_S, 77, 21637) = some (none, (M4, J4, tm_R, tm_S, 77, 21637))) : am_ev (e + 5) 180 154 [.ref 0, v1, .int s, v3] [.int 0] (M, J, tm_R, tm_S, 77, 21637) = some (some (.int 1), (M4, J4, tm_R, tm_S, 77, 21637)) := by
  rw [b180_154, if_pos rfl, if_neg (by rw [g.m3]; decide), g.wN (c := 7302244) 25 (by omega) rfl (by omega), am_call_s, am_toL, b180_242, if_pos rfl, g.wY (c := 2003792494) rfl, am_call_s, am_toL, b180_256, if_neg (by decide : ¬ (1 : Int32) = 0)]
  exact m_op306 g (by decide) v1 v3 j1 j2
theorem m_opE27 (g : Gd T n C M J p q 3 27 w) {s : Int32} (v1 v3 : Value) (j1 : am_G (am_ev (e + 4)) 173 [.ref 0, .int 3, .int (M 0 6)] (M, J, tm_R, tm_S, 77, 21637) = some (none, (M2, J, tm_R, tm_S, 77, 21637))) (j2 : am_G (am_ev (e + 4)) 164 [.ref 0] (M2, J, tm_R, tm_S, 77, 21637) = some (none, (M4, J4, tm_R, tm_S, 77, 21637))) : am_ev (e + 5) 180 154 [.ref 0, v1, .int s, v3] [.int 0] (M, J, tm_R, tm_S, 77, 21637) = some (some (.int 1), (M4, J4, tm_R, tm_S, 77, 21637)) := by
  rw [b180_154, if_pos rfl, if_neg (by rw [g.m3]; decide), g.wN (c := 7302244) 25 (by omega) rfl (by omega), am_call_s, am_toL, b180_242, if_pos rfl, g.wN (c := 2003792494) 26 (by omega) rfl (by omega), am_call_s, am_toL, b180_256, if_pos rfl, g.wY (c := 24948) rfl, am_call_s, am_toL, b180_270, if_neg (by decide : ¬ (1 : Int32) = 0)]
  exact m_op306 g (by decide) v1 v3 j1 j2
theorem m_opE28 (g : Gd T n C M J p q 3 28 w) {s : Int32} (v1 v3 : Value) (j1 : am_G (am_ev (e + 4)) 173 [.ref 0, .int 4, .int (M 0 6)] (M, J, tm_R, tm_S, 77, 21637) = some (none, (M2, J, tm_R, tm_S, 77, 21637))) (j2 : am_G (am_ev (e + 4)) 164 [.ref 0] (M2, J, tm_R, tm_S, 77, 21637) = some (none, (M4, J4, tm_R, tm_S, 77, 21637))) : am_ev (e + 5) 180 154 [.ref 0, v1, .int s, v3] [.int 0] (M, J, tm_R, tm_S, 77, 21637) = some (some (.int 1), (M4, J4, tm_R, tm_S, 77, 21637)) := by
  rw [b180_154, if_pos rfl, if_neg (by rw [g.m3]; decide), g.wN (c := 7302244) 25 (by omega) rfl (by omega), am_call_s, am_toL, b180_242, if_pos rfl, g.wN (c := 2003792494) 26 (by omega) rfl (by omega), am_call_s, am_toL, b180_256, if_pos rfl, g.wN (c := 24948) 27 (by omega) rfl (by omega), am_call_s, am_toL, b180_270, if_pos rfl, g.wY (c := 1802071652) rfl, am_call_s, am_toL, b180_284, if_neg (by decide : ¬ (1 : Int32) = 0)]
  exact m_op306 g (by decide) v1 v3 j1 j2
theorem m_opE29 (g : Gd T n C M J p q 3 29 w) {s : Int32} (v1 v3 : Value) (j1 : am_G (am_ev (e + 4)) 173 [.ref 0, .int 5, .int (M 0 6)] (M, J, tm_R, tm_S, 77, 21637) = some (none, (M2, J, tm_R, tm_S, 77, 21637))) (j2 : am_G (am_ev (e + 4)) 164 [.ref 0] (M2, J, tm_R, tm_S, 77, 21637) = some (none, (M4, J4, tm_R, tm_S, 77, 21637))) : am_ev (e + 5) 180 154 [.ref 0, v1, .int s, v3] [.int 0] (M, J, tm_R, tm_S, 77, 21637) = some (some (.int 1), (M4, J4, tm_R, tm_S, 77, 21637)) := by
  rw [b180_154, if_pos rfl, if_neg (by rw [g.m3]; decide), g.wN (c := 7302244) 25 (by omega) rfl (by omega), am_call_s, am_toL, b180_242, if_pos rfl, g.wN (c := 2003792494) 26 (by omega) rfl (by omega), am_call_s, am_toL, b180_256, if_pos rfl, g.wN (c := 24948) 27 (by omega) rfl (by omega), am_call_s, am_toL, b180_270, if_pos rfl, g.wN (c := 1802071652) 28 (by omega) rfl (by omega), am_call_s, am_toL, b180_284, if_pos rfl, g.wY (c := 7102841) rfl, am_call_s, am_toL, b180_298, if_neg (by decide : ¬ (1 : Int32) = 0)]
  exact m_op306 g (by decide) v1 v3 j1 j2
theorem mkk2 (hk : k ≠ 4) : ¬ nI (mkk k) = (2 : Int32) := by
  have h : mkk k ≠ 2 ∧ mkk k ≤ 3 := by unfold mkk; split <;> omega
  exact fun z => h.1 ((nI_eq (b := 2) (by omega) (by omega)).mp z)
theorem m_opX (g : Gd T n C M J p q k v w) {s : Int32} (hk : k ≠ 4) (nv : ¬ (k = 3 ∧ 25 ≤ v ∧ v ≤ 29)) (v1 v3 : Value) : am_ev (e + 5) 180 154 [.ref 0, v1, .int s, v3] [.int 0] (M, J, tm_R, tm_S, 77, 21637) = some (some (.int 1), (Fmm M 1 p, J, tm_R, tm_S, 77, 21637)) := by
  have m4 := mkk2 hk
  have j1 : am_G (am_ev (e + 4)) 161 [.ref 0, .int 1, .int (M 0 4)] (M, J, tm_R, tm_S, 77, 21637) = some (none, (Fmm M 1 p, J, tm_R, tm_S, 77, 21637)) := g.failM (e + 3) 1
  rw [b180_154, if_pos rfl, if_neg (by rw [g.m3]; exact m4), g.wN (c := 7302244) 25 (by omega) rfl (fun z => nv (by omega)), am_call_s, am_toL, b180_242, if_pos rfl, g.wN (c := 2003792494) 26 (by omega) rfl (fun z => nv (by omega)), am_call_s, am_toL, b180_256, if_pos rfl, g.wN (c := 24948) 27 (by omega) rfl (fun z => nv (by omega)), am_call_s, am_toL, b180_270, if_pos rfl, g.wN (c := 1802071652) 28 (by omega) rfl (fun z => nv (by omega)), am_call_s, am_toL, b180_284, if_pos rfl, g.wN (c := 7102841) 29 (by omega) rfl (fun z => nv (by omega)), am_call_s, am_toL, b180_298, if_pos rfl]
  refine (b180_306 (e + 4) M J v1 (some (.inr s)) v3 (-1)).trans ?_
  rw [if_pos rfl, j1, am_call_s, am_toN, b180_321, if_neg (by rw [Fmm_8]; decide)]
theorem m_opNot (g : Gd T n C M J p q 3 23 w) (v1 v2 v3 : Value) (x1 : Int32) (j1 : am_G (am_ev (e + 4)) 176 [.ref 0, .int 22] (M, J, tm_R, tm_S, 77, 21637) = some (none, (M2, J, tm_R, tm_S, 77, 21637))) (j2 : am_G (am_ev (e + 4)) 164 [.ref 0] (M2, J, tm_R, tm_S, 77, 21637) = some (none, (M4, J4, tm_R, tm_S, 77, 21637))) : am_ev (e + 5) 180 33 [.ref 0, .int x1, v2, v3] [.int 1] (M, J, tm_R, tm_S, 77, 21637) = some (some (.int 0), (M4, J4, tm_R, tm_S, 77, 21637)) := by
  rw [b180_33, if_neg (by decide : ¬ (1 : Int32) = 0), g.wY (c := 7237492) rfl, am_call_s, am_toL, b180_45, if_neg (by decide : ¬ (1 : Int32) = 0), j1, am_call_s, am_toN, b180_54, j2, am_call_s, am_toN, b180_58]
theorem m_opAll (g : Gd T n C M J p q 3 24 w) (ho : o ≤ 9) (v2 v3 : Value) (j1 : am_G (am_ev (e + 4)) 173 [.ref 0, .int 9, .int 0] (am_u2 M 41 o 0, J, tm_R, tm_S, 77, 21637) = some (none, (M2, J, tm_R, tm_S, 77, 21637))) (j2 : am_G (am_ev (e + 4)) 164 [.ref 0] (am_u2 M2 40 o 2, J, tm_R, tm_S, 77, 21637) = some (none, (M4, J4, tm_R, tm_S, 77, 21637))) : am_ev (e + 5) 180 33 [.ref 0, .int (nI o), v2, v3] [.int 1] (M, J, tm_R, tm_S, 77, 21637) = some (some (.int 1), (M4, J4, tm_R, tm_S, 77, 21637)) := by
  have ck : Int32.toNatClampNeg (nI o) = o := nI_clamp (by omega)
  have hi : am_in (nI o) 20 := nI_in (by omega) (by omega)
  have g1 := g.uM (c := 41) (i := o) (by omega) 0
  rw [b180_33, if_neg (by decide : ¬ (1 : Int32) = 0), g.wN (c := 7237492) 23 (by omega) rfl (by omega), am_call_s, am_toL, b180_45, if_pos rfl, b180_60, if_pos ⟨hi, Or.inl rfl⟩, if_neg (by decide : ¬ (1 : Int32) = 0)]
  (try simp only [ck])
  rw [g1.sN (c := 91) 91 rfl (by decide) (by omega), am_call_s, am_toL, b180_77, if_pos rfl, b180_87, if_neg (by decide : ¬ (1 : Int32) = 0), g1.wY (c := 6384748) rfl, am_call_s, am_toL, b180_98, if_neg (by decide : ¬ (1 : Int32) = 0), j1, am_call_s, am_toN, b180_108, if_pos hi]
  (try simp only [ck])
  rw [j2, am_call_s, am_toN, b180_119]
theorem m_opBr (g : Gd T n C M J p q 5 91 w) (ho : o ≤ 9) (v2 v3 : Value) (j1 : am_G (am_ev (e + 4)) 178 [.ref 0, .int 5] (am_u2 M 41 o 0, J, tm_R, tm_S, 77, 21637) = some (none, (M4, J4, tm_R, tm_S, 77, 21637))) : am_ev (e + 5) 180 33 [.ref 0, .int (nI o), v2, v3] [.int 1] (M, J, tm_R, tm_S, 77, 21637) = some (some (.int 0), (M4, J4, tm_R, tm_S, 77, 21637)) := by
  have ck : Int32.toNatClampNeg (nI o) = o := nI_clamp (by omega)
  have hi : am_in (nI o) 20 := nI_in (by omega) (by omega)
  have g1 := g.uM (c := 41) (i := o) (by omega) 0
  rw [b180_33, if_neg (by decide : ¬ (1 : Int32) = 0), g.wN (c := 7237492) 23 (by omega) rfl (by omega), am_call_s, am_toL, b180_45, if_pos rfl, b180_60, if_pos ⟨hi, Or.inl rfl⟩, if_neg (by decide : ¬ (1 : Int32) = 0)]
  (try simp only [ck])
  rw [g1.sY (c := 91) rfl, am_call_s, am_toL, b180_77, if_neg (by decide : ¬ (1 : Int32) = 0), j1, am_call_s, am_toN, b180_85]
theorem m_opPa (g : Gd T n C M J p q 5 40 w) (v1 v2 v3 : Value) (j1 : am_G (am_ev (e + 4)) 178 [.ref 0, .int 2] (M, J, tm_R, tm_S, 77, 21637) = some (none, (M4, J4, tm_R, tm_S, 77, 21637))) : am_call (am_G (am_ev (e + 4)) 165 [.ref 0, .int 40] (M, J, tm_R, tm_S, 77, 21637)) (fun r M => am_ev (e + 5) 180 127 [.ref 0, v1, v2, v3] (r.toList ++ []) M) = some (some (.int 0), (M4, J4, tm_R, tm_S, 77, 21637)) := by
  rw [g.sY (c := 40) rfl, am_call_s, am_toL, b180_127, if_neg (by decide : ¬ (1 : Int32) = 0), j1, am_call_s, am_toN, b180_135]
theorem m_opM30 (g : Gd T n C M J p q 3 30 w) (v1 v3 : Value) (s : Int32) (j1 : am_G (am_ev (e + 4)) 164 [.ref 0] (M, J, tm_R, tm_S, 77, 21637) = some (none, (M2, J2, tm_R, tm_S, 77, 21637))) : am_call (am_G (am_ev (e + 4)) 165 [.ref 0, .int 40] (M, J, tm_R, tm_S, 77, 21637)) (fun r M => am_ev (e + 5) 180 127 [.ref 0, v1, .int s, v3] (r.toList ++ []) M) = am_ev (e + 5) 180 179 [.ref 0, v1, .int s, .int 15] [] (M2, J2, tm_R, tm_S, 77, 21637) := by
  rw [g.sN (c := 40) 40 rfl (by decide) (by omega), am_call_s, am_toL, b180_127, if_pos rfl, g.wY (c := 7170414) rfl, am_call_s, am_toL, b180_144, if_neg (by decide : ¬ (1 : Int32) = 0), g.wY (c := 7170414) rfl, am_call_s, am_toL]
  refine (b180_164 (e + 4) M J v1 (some (.inr s)) v3 1).trans ?_
  rw [if_neg (by decide : ¬ (1 : Int32) = 0), j1, am_call_s, am_toN]
  rfl
theorem m_opM31 (g : Gd T n C M J p q 3 31 w) (v1 v3 : Value) (s : Int32) (j1 : am_G (am_ev (e + 4)) 164 [.ref 0] (M, J, tm_R, tm_S, 77, 21637) = some (none, (M2, J2, tm_R, tm_S, 77, 21637))) : am_call (am_G (am_ev (e + 4)) 165 [.ref 0, .int 40] (M, J, tm_R, tm_S, 77, 21637)) (fun r M => am_ev (e + 5) 180 127 [.ref 0, v1, .int s, v3] (r.toList ++ []) M) = am_ev (e + 5) 180 179 [.ref 0, v1, .int s, .int 16] [] (M2, J2, tm_R, tm_S, 77, 21637) := by
  rw [g.sN (c := 40) 40 rfl (by decide) (by omega), am_call_s, am_toL, b180_127, if_pos rfl, g.wN (c := 7170414) 30 (by omega) rfl (by omega), am_call_s, am_toL, b180_144, if_pos rfl, g.wY (c := 7168376) rfl, am_call_s, am_toL, b180_154, if_neg (by decide : ¬ (1 : Int32) = 0), g.wN (c := 7170414) 30 (by omega) rfl (by omega), am_call_s, am_toL]
  refine (b180_164 (e + 4) M J v1 (some (.inr s)) v3 0).trans ?_
  rw [if_pos rfl, j1, am_call_s, am_toN]
  rfl
theorem m_opMY (g : Gd T n C M J p q 5 40 w) (v1 v2 : Value) (c : Int32) (j1 : am_G (am_ev (e + 4)) 178 [.ref 0, .int 3] (M, J, tm_R, tm_S, 77, 21637) = some (none, (M2, J2, tm_R, tm_S, 77, 21637))) (h57 : M2 0 57 = nI (o + 2)) (ho : o ≤ 9) (h8 : M2 0 8 = 0) : am_ev (e + 5) 180 179 [.ref 0, v1, v2, .int c] [] (M, J, tm_R, tm_S, 77, 21637) = some (some (.int 0), (am_u2 M2 42 (o + 1) c, J2, tm_R, tm_S, 77, 21637)) := by
  have e57 : M2 0 57 - 1 = nI (o + 1) := by rw [h57]; exact nI_sub (b := 1) (by omega) (by omega)
  have ck : Int32.toNatClampNeg (nI (o + 1)) = o + 1 := nI_clamp (by omega)
  rw [b180_179, g.sY (c := 40) rfl, am_call_s, am_toL, b180_185, if_neg (by decide : ¬ (1 : Int32) = 0), b180_197, j1, am_call_s, am_toN, b180_202, if_pos h8, e57, if_pos (nI_in (by omega) (by omega))]
  (try simp only [ck])
theorem m_opMYb (g : Gd T n C M J p q 5 40 w) (v1 v2 : Value) (c : Int32) (j1 : am_G (am_ev (e + 4)) 178 [.ref 0, .int 3] (M, J, tm_R, tm_S, 77, 21637) = some (none, (M2, J2, tm_R, tm_S, 77, 21637))) (h8 : ¬ M2 0 8 = 0) : am_ev (e + 5) 180 179 [.ref 0, v1, v2, .int c] [] (M, J, tm_R, tm_S, 77, 21637) = some (some (.int 0), (M2, J2, tm_R, tm_S, 77, 21637)) := by
  rw [b180_179, g.sY (c := 40) rfl, am_call_s, am_toL, b180_185, if_neg (by decide : ¬ (1 : Int32) = 0), b180_197, j1, am_call_s, am_toN, b180_202, if_neg h8]
theorem m_opens0 (h8 : ¬ M 0 8 ≤ 0) (a : Int32) (d : Nat) : am_G (am_ev (d + 2)) 178 [.ref 0, .int a] (M, J, tm_R, tm_S, 77, 21637) = some (none, (M, J, tm_R, tm_S, 77, 21637)) := by
  rw [b178_0]
  by_cases z : M 0 58 = 8
  · rw [if_pos z, b161_0, if_neg h8, am_call_s, am_toN, b178_18, if_neg h8]
  · rw [if_neg z, b178_18, if_neg h8]
theorem le08 {a : Int32} (h : ¬ a ≤ 0) : ¬ a = 0 := fun z => h (z ▸ Int32.le_refl 0)
/-- a fault stands already -/
theorem m_opMb (h8 : ¬ M 0 8 ≤ 0) (v1 v2 : Value) (c : Int32) : am_ev (e + 5) 180 179 [.ref 0, v1, v2, .int c] [] (M, J, tm_R, tm_S, 77, 21637) = some (some (.int 0), (M, J, tm_R, tm_S, 77, 21637)) := by
  have t : am_ev (e + 5) 180 197 [.ref 0, v1, v2, .int c] [] (M, J, tm_R, tm_S, 77, 21637) = some (some (.int 0), (M, J, tm_R, tm_S, 77, 21637)) := by
    rw [b180_197, m_opens0 (d := e + 2) h8, am_call_s, am_toN, b180_202, if_neg (le08 h8)]
  have u : ∀ s0 : Int32, am_ev (e + 5) 180 185 [.ref 0, v1, v2, .int c] [.int s0] (M, J, tm_R, tm_S, 77, 21637) = some (some (.int 0), (M, J, tm_R, tm_S, 77, 21637)) := fun s0 => by
    rw [b180_185]
    by_cases z : s0 = 0
    · rw [if_pos z, b161_0, if_neg h8, am_call_s, am_toN, t]
    · rw [if_neg z, t]
  rw [b180_179, b165_0]
  by_cases y : M 0 3 = 3
  · rw [if_pos y]
    by_cases z : M 0 6 = 40
    · rw [if_pos z, am_call_s, am_toL, u]
    · rw [if_neg z, am_call_s, am_toL, u]
  · rw [if_neg y, am_call_s, am_toL, u]
/-- no bracket behind min or max -/
theorem m_opMN (g : Gd T n C M J p q k v w) (hn : ¬ (k = 5 ∧ v = 40)) (v1 v2 : Value) (c : Int32) : am_ev (e + 5) 180 179 [.ref 0, v1, v2, .int c] [] (M, J, tm_R, tm_S, 77, 21637) = some (some (.int 0), (Fmm M 1 p, J, tm_R, tm_S, 77, 21637)) := by
  have j1 : am_G (am_ev (e + 4)) 161 [.ref 0, .int 1, .int (M 0 4)] (M, J, tm_R, tm_S, 77, 21637) = some (none, (Fmm M 1 p, J, tm_R, tm_S, 77, 21637)) := g.failM (e + 3) 1
  have h8 : ¬ Fmm M 1 p 0 8 ≤ 0 := by rw [Fmm_8]; decide
  rw [b180_179, g.sN (c := 40) 40 rfl (by decide) hn, am_call_s, am_toL, b180_185, if_pos rfl, j1, am_call_s, am_toN, b180_197, m_opens0 (d := e + 2) h8, am_call_s, am_toN, b180_202, if_neg (le08 h8)]
/-! closings -/
theorem m_g409s (g : Gd T n C M J p q k v w) (h57 : M 0 57 = nI (o + 1)) (ho : o ≤ 9) (h40 : M 40 o = nI f) (hf : f ≤ 1) (h39 : ¬ M 39 o = 1) (h39' : ¬ M 39 o = 5) (hn : ¬ (k = 5 ∧ v = 43) ∧ ¬ (k = 5 ∧ v = 45) ∧ ¬ (k = 5 ∧ v = 42) ∧ ¬ (k = 5 ∧ v = 47) ∧ ¬ (k = 5 ∧ v = 37)) : am_G (am_ev (e + 5)) 181 [.ref 0] (M, J, tm_R, tm_S, 77, 21637) = am_ev (e + 5) 181 409 [.ref 0, .int (nI o), .int (M 39 o), .int 0, am_un] [] (M, J, tm_R, tm_S, 77, 21637) := by
  obtain ⟨s, t1, t2⟩ := m_go175 (e := e) g h57 ho h40 (by omega) (fun _ => hn)
  rcases t2 with ⟨rfl, z | z⟩ | ⟨rfl, _⟩
  · exact absurd z h39
  · exact absurd z h39'
  · rw [t1, m_go272 g ho _ _ (Or.inl rfl), b181_272, if_pos rfl, b181_387, if_pos rfl]
theorem m_g409t (g : Gd T n C M J p q k v w) (h57 : M 0 57 = nI (o + 1)) (ho : o ≤ 9) (h40 : M 40 o = nI f) (hf0 : 0 < f) (hf : f ≤ 2) (h39 : M 39 o = 1 ∨ M 39 o = 5) (hn : f ≤ 1 → ¬ (k = 5 ∧ v = 43) ∧ ¬ (k = 5 ∧ v = 45) ∧ ¬ (k = 5 ∧ v = 42) ∧ ¬ (k = 5 ∧ v = 47) ∧ ¬ (k = 5 ∧ v = 37)) (n1 : ¬ (k = 3 ∧ v = 22)) (n2 : ¬ (k = 3 ∧ v = 21)) : am_G (am_ev (e + 5)) 181 [.ref 0] (M, J, tm_R, tm_S, 77, 21637) = am_ev (e + 5) 181 409 [.ref 0, .int (nI o), .int (M 39 o), .int 1, am_un] [] (M, J, tm_R, tm_S, 77, 21637) := by
  have ck : Int32.toNatClampNeg (nI o) = o := nI_clamp (by omega)
  have hi : am_in (nI o) 20 := nI_in (by omega) (by omega)
  have h0 : ¬ M 40 o = 0 := by rw [h40]; exact fun z => by have := (nI_eq (b := 0) (by omega) (by omega)).mp z; omega
  obtain ⟨s, t1, t2⟩ := m_go175 (e := e) g h57 ho h40 hf hn
  rcases t2 with ⟨rfl, _⟩ | ⟨rfl, z1, z2⟩
  · rw [t1, m_go272 g ho _ _ (Or.inr (Or.inl h0)), b181_272, if_neg (by decide : ¬ (1 : Int32) = 0), g.wN (c := 6385252) 22 (by omega) rfl n1, am_call_s, am_toL, b181_283, if_pos rfl, g.wN (c := 28530) 21 (by omega) rfl n2, am_call_s, am_toL, b181_293, if_pos rfl, b181_387, if_neg (by decide : ¬ (1 : Int32) = 0), if_pos hi]
    (try simp only [ck])
    rw [if_neg h0]
  · exact absurd h39 (fun z => z.elim z1 z2)
/-- a closing bracket -/
theorem m_cl2 (g : Gd T n C M J p q 5 41 w) {x1 : Int32} {v3 v4 : Value} (j1 : am_G (am_ev (e + 4)) 175 [.ref 0, .int 1] (M, J, tm_R, tm_S, 77, 21637) = some (none, (M2, J, tm_R, tm_S, 77, 21637))) (j2 : am_G (am_ev (e + 4)) 164 [.ref 0] (am_u2 (am_u2 M2 0 57 (M2 0 57 - 1)) 0 58 (M2 0 58 - 1), J, tm_R, tm_S, 77, 21637) = some (none, (M4, J4, tm_R, tm_S, 77, 21637))) : am_ev (e + 5) 181 409 [.ref 0, .int x1, .int 2, v3, v4] [] (M, J, tm_R, tm_S, 77, 21637) = some (some (.int 1), (M4, J4, tm_R, tm_S, 77, 21637)) := by
  rw [b181_409, if_pos (by decide), if_neg (by decide : ¬ (2 : Int32) = 3), if_neg (by decide : ¬ (2 : Int32) = 5), g.sY (c := 41) rfl, am_call_s, am_toL, b181_499, if_neg (by decide : ¬ (1 : Int32) = 0), b181_511, if_pos (by rw [g.m8]; decide), j1, am_call_s, am_toN, b181_525, if_neg (by decide : ¬ (2 : Int32) = 4), b181_561, if_neg (by decide : ¬ (2 : Int32) = 5), j2, am_call_s, am_toN, b181_582]
theorem m_cl4 (g : Gd T n C M J p q 5 41 w) (ho : o ≤ 9) {v3 v4 : Value} (j1 : am_G (am_ev (e + 4)) 175 [.ref 0, .int 1] (M, J, tm_R, tm_S, 77, 21637) = some (none, (M2, J, tm_R, tm_S, 77, 21637))) (j3 : am_G (am_ev (e + 4)) 173 [.ref 0, .int (M2 42 o), .int 0] (am_u2 (am_u2 M2 0 57 (M2 0 57 - 1)) 0 58 (M2 0 58 - 1), J, tm_R, tm_S, 77, 21637) = some (none, (M3, J, tm_R, tm_S, 77, 21637))) (j2 : am_G (am_ev (e + 4)) 164 [.ref 0] (M3, J, tm_R, tm_S, 77, 21637) = some (none, (M4, J4, tm_R, tm_S, 77, 21637))) : am_ev (e + 5) 181 409 [.ref 0, .int (nI o), .int 4, v3, v4] [] (M, J, tm_R, tm_S, 77, 21637) = some (some (.int 1), (M4, J4, tm_R, tm_S, 77, 21637)) := by
  have ck : Int32.toNatClampNeg (nI o) = o := nI_clamp (by omega)
  have hi : am_in (nI o) 20 := nI_in (by omega) (by omega)
  rw [b181_409, if_pos (by decide), if_neg (by decide : ¬ (4 : Int32) = 3), if_neg (by decide : ¬ (4 : Int32) = 5), g.sY (c := 41) rfl, am_call_s, am_toL, b181_499, if_neg (by decide : ¬ (1 : Int32) = 0), b181_511, if_pos (by rw [g.m8]; decide), j1, am_call_s, am_toN, b181_525, if_pos rfl, if_pos hi]
  (try simp only [ck])
  rw [j3, am_call_s, am_toN, b181_561, if_neg (by decide : ¬ (4 : Int32) = 5), j2, am_call_s, am_toN, b181_582]
theorem m_cl5 (g : Gd T n C M J p q 5 93 w) (ho : o ≤ 9) {x1 : Int32} {v3 v4 : Value} (j1 : am_G (am_ev (e + 4)) 175 [.ref 0, .int 1] (M, J, tm_R, tm_S, 77, 21637) = some (none, (M2, J, tm_R, tm_S, 77, 21637))) (h57 : M2 0 57 = nI (o + 2)) (j2 : am_G (am_ev (e + 4)) 164 [.ref 0] (am_u2 (am_u2 (am_u2 M2 0 57 (M2 0 57 - 1)) 0 58 (M2 0 58 - 1)) 40 o 2, J, tm_R, tm_S, 77, 21637) = some (none, (M4, J4, tm_R, tm_S, 77, 21637))) : am_ev (e + 5) 181 409 [.ref 0, .int x1, .int 5, v3, v4] [] (M, J, tm_R, tm_S, 77, 21637) = some (some (.int 1), (M4, J4, tm_R, tm_S, 77, 21637)) := by
  have e57 : am_u2 (am_u2 M2 0 57 (M2 0 57 - 1)) 0 58 (M2 0 58 - 1) 0 57 - 1 = nI o := by
    rw [u2_p (by omega), u2_s, h57, show nI (o + 2) - 1 = nI (o + 1) from nI_sub (b := 1) (by omega) (by omega)]
    exact nI_sub (b := 1) (by omega) (by omega)
  have ck : Int32.toNatClampNeg (nI o) = o := nI_clamp (by omega)
  have hi : am_in (nI o) 20 := nI_in (by omega) (by omega)
  rw [b181_409, if_pos (by decide), if_neg (by decide : ¬ (5 : Int32) = 3), if_pos rfl, g.sY (c := 93) rfl, am_call_s, am_toL, b181_499, if_neg (by decide : ¬ (1 : Int32) = 0), b181_511, if_pos (by rw [g.m8]; decide), j1, am_call_s, am_toN, b181_525, if_neg (by decide : ¬ (5 : Int32) = 4), b181_561, if_pos rfl, e57, if_pos hi]
  (try simp only [ck])
  rw [j2, am_call_s, am_toN, b181_582]
theorem m_cl3 (g : Gd T n C M J p q 5 44 w) (ho : o ≤ 9) {v3 v4 : Value} (j1 : am_G (am_ev (e + 4)) 175 [.ref 0, .int 1] (M, J, tm_R, tm_S, 77, 21637) = some (none, (M2, J, tm_R, tm_S, 77, 21637))) (j2 : am_G (am_ev (e + 4)) 164 [.ref 0] (am_u2 M2 39 o 4, J, tm_R, tm_S, 77, 21637) = some (none, (M4, J4, tm_R, tm_S, 77, 21637))) : am_ev (e + 5) 181 409 [.ref 0, .int (nI o), .int 3, v3, v4] [] (M, J, tm_R, tm_S, 77, 21637) = some (some (.int 1), (am_u2 M4 0 61 0, J4, tm_R, tm_S, 77, 21637)) := by
  have ck : Int32.toNatClampNeg (nI o) = o := nI_clamp (by omega)
  have hi : am_in (nI o) 20 := nI_in (by omega) (by omega)
  rw [b181_409, if_pos (by decide), if_pos rfl, g.sY (c := 44) rfl, am_call_s, am_toL, b181_439, if_neg (by decide : ¬ (1 : Int32) = 0), b181_451, if_pos (by rw [g.m8]; decide), j1, am_call_s, am_toN, b181_465, if_pos hi]
  (try simp only [ck])
  rw [j2, am_call_s, am_toN, b181_476]
theorem m_cl1 (g : Gd T n C M J p q k v w) {x1 : Int32} {v3 v4 : Value} (j1 : am_G (am_ev (e + 4)) 175 [.ref 0, .int 1] (M, J, tm_R, tm_S, 77, 21637) = some (none, (M2, J, tm_R, tm_S, 77, 21637))) : am_ev (e + 5) 181 409 [.ref 0, .int x1, .int 1, v3, v4] [] (M, J, tm_R, tm_S, 77, 21637) = some (some (.int 0), (M2, J, tm_R, tm_S, 77, 21637)) := by
  rw [b181_409, if_neg (by decide), if_pos g.m8, j1, am_call_s, am_toN, b181_426]
/-- it isn't closed -/
theorem m_cln (g : Gd T n C M J p q k v w) {x1 fk : Int32} {v3 v4 : Value} (hf : fk = 2 ∨ fk = 4 ∨ fk = 5 ∨ fk = 3) (n1 : (fk = 2 ∨ fk = 4) → ¬ (k = 5 ∧ v = 41)) (n2 : fk = 5 → ¬ (k = 5 ∧ v = 93)) (n3 : fk = 3 → ¬ (k = 5 ∧ v = 44)) : am_ev (e + 5) 181 409 [.ref 0, .int x1, .int fk, v3, v4] [] (M, J, tm_R, tm_S, 77, 21637) = some (some (.int 0), (Fmm M 1 p, J, tm_R, tm_S, 77, 21637)) := by
  have j1 : am_G (am_ev (e + 4)) 161 [.ref 0, .int 1, .int (M 0 4)] (M, J, tm_R, tm_S, 77, 21637) = some (none, (Fmm M 1 p, J, tm_R, tm_S, 77, 21637)) := g.failM (e + 3) 1
  have h8 : ¬ Fmm M 1 p 0 8 ≤ 0 := by rw [Fmm_8]; decide
  rcases hf with rfl | rfl | rfl | rfl
  · rw [b181_409, if_pos (by decide), if_neg (by decide : ¬ (2 : Int32) = 3), if_neg (by decide : ¬ (2 : Int32) = 5), g.sN (c := 41) 41 rfl (by decide) (n1 (Or.inl rfl)), am_call_s, am_toL, b181_499, if_pos rfl, j1, am_call_s, am_toN, b181_511, if_neg h8]
  · rw [b181_409, if_pos (by decide), if_neg (by decide : ¬ (4 : Int32) = 3), if_neg (by decide : ¬ (4 : Int32) = 5), g.sN (c := 41) 41 rfl (by decide) (n1 (Or.inr rfl)), am_call_s, am_toL, b181_499, if_pos rfl, j1, am_call_s, am_toN, b181_511, if_neg h8]
  · rw [b181_409, if_pos (by decide), if_neg (by decide : ¬ (5 : Int32) = 3), if_pos rfl, g.sN (c := 93) 93 rfl (by decide) (n2 rfl), am_call_s, am_toL, b181_499, if_pos rfl, j1, am_call_s, am_toN, b181_511, if_neg h8]
  · rw [b181_409, if_pos (by decide), if_pos rfl, g.sN (c := 44) 44 rfl (by decide) (n3 rfl), am_call_s, am_toL, b181_439, if_pos rfl, j1, am_call_s, am_toN, b181_451, if_neg h8]
/-- a fact without a comparison -/
theorem m_gcn (g : Gd T n C M J p q k v w) (h57 : M 0 57 = nI (o + 1)) (ho : o ≤ 9) (h40 : M 40 o = 0) (h39 : M 39 o = 1 ∨ M 39 o = 5) (hn : ¬ (k = 5 ∧ v = 43) ∧ ¬ (k = 5 ∧ v = 45) ∧ ¬ (k = 5 ∧ v = 42) ∧ ¬ (k = 5 ∧ v = 47) ∧ ¬ (k = 5 ∧ v = 37)) (hc : ¬ (k = 5 ∧ v = 60) ∧ ¬ (k = 5 ∧ v = 62) ∧ ¬ (k = 5 ∧ v = 61)) : am_G (am_ev (e + 5)) 181 [.ref 0] (M, J, tm_R, tm_S, 77, 21637) = some (some (.int 0), (Fmm M 1 p, J, tm_R, tm_S, 77, 21637)) := by
  have ck : Int32.toNatClampNeg (nI o) = o := nI_clamp (by omega)
  have hi : am_in (nI o) 20 := nI_in (by omega) (by omega)
  have j1 : am_G (am_ev (e + 4)) 161 [.ref 0, .int 1, .int (M 0 4)] (M, J, tm_R, tm_S, 77, 21637) = some (none, (Fmm M 1 p, J, tm_R, tm_S, 77, 21637)) := g.failM (e + 3) 1
  have h8 : ¬ Fmm M 1 p 0 8 ≤ 0 := by rw [Fmm_8]; decide
  obtain ⟨s, t1, t2⟩ := m_go175 (e := e) (f := 0) g h57 ho h40 (by omega) (fun _ => hn)
  rcases t2 with ⟨rfl, _⟩ | ⟨rfl, z1, z2⟩
  · have f409 : ∀ x2 v3 v4, am_ev (e + 5) 181 409 [.ref 0, .int (nI o), .int x2, v3, v4] [] (Fmm M 1 p, J, tm_R, tm_S, 77, 21637) = some (some (.int 0), (Fmm M 1 p, J, tm_R, tm_S, 77, 21637)) := fun x2 v3 v4 => by
      have q499 : ∀ s0, am_ev (e + 5) 181 499 [.ref 0, .int (nI o), .int x2, v3, v4] [.int s0] (Fmm M 1 p, J, tm_R, tm_S, 77, 21637) = some (some (.int 0), (Fmm M 1 p, J, tm_R, tm_S, 77, 21637)) := fun s0 => by
        rw [b181_499]
        by_cases z : s0 = 0
        · rw [if_pos z, b161_0, if_neg h8, am_call_s, am_toN, b181_511, if_neg h8]
        · rw [if_neg z, b181_511, if_neg h8]
      have q439 : ∀ s0, am_ev (e + 5) 181 439 [.ref 0, .int (nI o), .int x2, v3, v4] [.int s0] (Fmm M 1 p, J, tm_R, tm_S, 77, 21637) = some (some (.int 0), (Fmm M 1 p, J, tm_R, tm_S, 77, 21637)) := fun s0 => by
        rw [b181_439]
        by_cases z : s0 = 0
        · rw [if_pos z, b161_0, if_neg h8, am_call_s, am_toN, b181_451, if_neg h8]
        · rw [if_neg z, b181_451, if_neg h8]
      have q165 : ∀ a : Int32, ∃ s0 : Int32, am_G (am_ev (e + 4)) 165 [.ref 0, .int a] (Fmm M 1 p, J, tm_R, tm_S, 77, 21637) = some (some (.int s0), (Fmm M 1 p, J, tm_R, tm_S, 77, 21637)) := fun a => by
        rw [b165_0]
        by_cases y : Fmm M 1 p 0 3 = 3
        · rw [if_pos y]
          by_cases z : Fmm M 1 p 0 6 = a
          · rw [if_pos z]; exact ⟨1, rfl⟩
          · rw [if_neg z]; exact ⟨0, rfl⟩
        · rw [if_neg y]; exact ⟨0, rfl⟩
      rw [b181_409]
      by_cases y : 2 ≤ x2
      · rw [if_pos y]
        by_cases y3 : x2 = 3
        · obtain ⟨s0, e0⟩ := q165 44
          rw [if_pos y3, e0, am_call_s, am_toL, q439]
        · rw [if_neg y3]
          by_cases y5 : x2 = 5
          · obtain ⟨s0, e0⟩ := q165 93
            rw [if_pos y5, e0, am_call_s, am_toL, q499]
          · obtain ⟨s0, e0⟩ := q165 41
            rw [if_neg y5, e0, am_call_s, am_toL, q499]
      · rw [if_neg y, if_neg (le08 h8), b181_426]
    have f387 : ∀ x2, am_ev (e + 5) 181 387 [.ref 0, .int (nI o), .int x2, .int 1, am_un] [] (M, J, tm_R, tm_S, 77, 21637) = some (some (.int 0), (Fmm M 1 p, J, tm_R, tm_S, 77, 21637)) := fun x2 => by
      rw [b181_387, if_neg (by decide : ¬ (1 : Int32) = 0), if_pos hi]
      (try simp only [ck])
      rw [if_pos h40, j1, am_call_s, am_toN, f409]
    have f296 : ∀ x2, am_ev (e + 5) 181 296 [.ref 0, .int (nI o), .int x2, .int 1, am_un] [] (M, J, tm_R, tm_S, 77, 21637) = some (some (.int 0), (Fmm M 1 p, J, tm_R, tm_S, 77, 21637)) := fun x2 => by
      rw [b181_296, if_pos hi]
      (try simp only [ck])
      rw [if_pos h40, j1, am_call_s, am_toN, b181_314, if_neg h8]
    rw [t1, m_go272 g ho _ _ (Or.inr (Or.inr hc)), b181_272, if_neg (by decide : ¬ (1 : Int32) = 0), g.at3M (j := 22) (by omega) (c := 6385252) rfl, am_call_s, am_toL, b181_283]
    by_cases z : k = 3 ∧ v = 22
    · rw [am_b1 z, if_neg (by decide : ¬ (1 : Int32) = 0), f296]
    · rw [am_b0 z, if_pos rfl, g.at3M (j := 21) (by omega) (c := 28530) rfl, am_call_s, am_toL, b181_293]
      by_cases z : k = 3 ∧ v = 21
      · rw [am_b1 z, if_neg (by decide : ¬ (1 : Int32) = 0), f296]
      · rw [am_b0 z, if_pos rfl, f387]
  · exact absurd h39 (fun z => z.elim z1 z2)
end MOP
