/-! LAWS: the statement, both sides -/
def Lf (x : Bool) (la lb : Nat) (C M C' M' : tI) (A B : List (Nat × Int)) : Prop :=
  (∀ a b, ¬ (a = 1 ∧ 3 ≤ b) → ¬ (a = tc_P (!x) + 33 ∧ b = 2) → ¬ (a = tc_P (!x) + 34 ∧ la ≤ b) → C' a b = C a b) ∧
  (∀ a j, ¬ (a = 0 ∧ ((3 ≤ j ∧ j ≤ 9) ∨ j = 50 ∨ (57 ≤ j ∧ j ≤ 61))) → ¬ ((a = 37 ∨ a = 38) ∧ 1600 * xb (!x) + lb ≤ j ∧ j < 1600 * xb (!x) + 1600) → ¬ (39 ≤ a ∧ a ≤ 44) → M' a j = M a j) ∧
  C' (tc_P (!x) + 33) 2 = nI (la + A.length) ∧ l_atC C' (tc_P (!x)) la A ∧ M' 0 50 = nI (lb + B.length) ∧ l_atM M' (xb (!x)) lb B
section LWK
variable {T : Nat → Nat} {n p q k v la lb : Nat} {w : List Nat} {x : Bool} {C M C' M' C1 M1 C2 M2 C3 : tI} {J J' J1 J2 Jc : tJ} {N : Nat → Nat} {e : Nat}
/-- the class's end of the statement -/
theorem c_95w {a : Int32} {v2 : Value} {m : Nat} (h6 : C (tc_P (!x) + 1) 6 = nI m) (hm : m < 8) (h7 : C 1 7 = 0) (d : Nat) : am_ev (d + 1) 95 29 [.ref 1, .int a, v2] [] (C, Jc, (tc_R x), tc_S, 289, 11479) = some (none, (am_u2 (am_u2 (am_u2 C (tc_P (!x) + 35) m a) (tc_P (!x) + 35) (m + 1) (C (tc_P (!x) + 33) 2)) (tc_P (!x) + 1) 6 (nI (m + 1)), Jc, (tc_R x), tc_S, 289, 11479)) := by
  have k6 : Int32.toNatClampNeg (6 : Int32) = 6 := rfl
  have ck : Int32.toNatClampNeg (nI m) = m := nI_clamp (by omega)
  have ck1 : Int32.toNatClampNeg (nI (m + 1)) = m + 1 := nI_clamp (by omega)
  have i6 : am_in 6 9 := by decide
  rw [b95_29, if_pos h7, if_pos i6]
  simp only [k6]
  rw [h6, nI_1, if_pos (nI_in (by omega) (by omega)), if_pos (nI_in (by omega) (by omega)), if_pos i6, if_pos i6]
  simp only [ck, ck1]
theorem c_95b {a : Int32} {v2 : Value} {m : Nat} (h6 : C (tc_P (!x) + 1) 6 = nI m) (hm : m < 8 ∨ ¬ C 1 7 = 0) (d : Nat) : ∃ C', am_ev (d + 1) 95 29 [.ref 1, .int a, v2] [] (C, Jc, (tc_R x), tc_S, 289, 11479) = some (none, (C', Jc, (tc_R x), tc_S, 289, 11479)) ∧ RC (!x) C C' ∧ ∀ a b, a ≤ 3 → C' a b = C a b := by
  have hy := tc_P4 (!x)
  by_cases z : C 1 7 = 0
  · refine ⟨_, c_95w h6 (hm.resolve_right (fun y => y z)) z d, ((RC.rf.u (by omega) _).u (by omega) _).u (by omega) _, fun a b h => ?_⟩
    rw [u2_c (by omega), u2_c (by omega), u2_c (by omega)]
  · exact ⟨C, by rw [b95_29, if_neg z], RC.rf, fun _ _ _ => rfl⟩
theorem cq6 : cqq 6 = 34 := rfl
/-- a statement at fault -/
theorem law_bad (h0 : tpR T n C M) (ow : rl_Ow C) (rc : RC (!x) C C') (rm : RM (!x) M M') (hb : Bd C' M') (lo : Nat) : Sy T n lo C' M' J' := by
  have hy := tc_P4 (!x)
  obtain ⟨t1, t2, t3, t4⟩ := h0
  refine ⟨⟨?_, ?_, t3, fun j hj => ⟨?_, ?_, (t4 j hj).2.2⟩⟩, ow.fr (fun b => rc 2 b (by omega) (by omega)), Or.inr hb⟩
  · rw [rc 1 2 (by omega) (by omega)]; exact t1
  · rw [rm 0 2 (by omega) (by omega) (by omega)]; exact t2
  · rw [rc 3 j (by omega) (by omega)]; exact (t4 j hj).1
  · rw [rm 1 j (by omega) (by omega) (by omega)]; exact (t4 j hj).2.1
theorem law_go (g : Gd T n C M J p q k v w) (h51 : M 0 51 = nI (xb (!x))) (hP : PG (!x) N la lb C M J) (hla : la ≤ p) (hlb : lb ≤ p) (d e : Nat) : ∃ C' M' J', am_G (am_ev (d + 42)) 96 [.ref 1, .int 0] (C, Jc, (tc_R x), tc_S, 289, 11479) = some (none, (C', Jc, (tc_R x), tc_S, 289, 11479)) ∧ am_G (am_ev (e + 6)) 182 [.ref 0, .int 1] (M, J, tm_R, tm_S, 77, 21637) = some (none, (M', J', tm_R, tm_S, 77, 21637)) ∧ ((∃ A B p2 q2 k2 v2 w2, Gd T n C' M' J' p2 q2 k2 v2 w2 ∧ JF J J' ∧ RM (!x) M M' ∧ Lf x la lb C M C' M' A B ∧ p < p2 ∧ p + A.length ≤ p2 ∧ p + B.length ≤ p2 ∧ l_ok A B) ∨ BdX x C M J C' M' J') := by
  have b50 := hP.2.2.2.2.2.2.2.2.2.2.1
  have bC := hP.2.2.2.2.2.2.2.2.2.1
  have i0 : am_in (0 : Int32) 20 := by decide
  have k0 : Int32.toNatClampNeg (0 : Int32) = 0 := rfl
  let M4 : tI := am_u2 (am_u2 (am_u2 (am_u2 M 0 57 0) 0 58 0) 0 60 0) 0 61 0
  let M5 : tI := am_u2 (am_u2 (am_u2 (am_u2 (am_u2 M4 39 0 1) 40 0 0) 41 0 1) 43 0 0) 0 57 1
  have f57 : M4 0 57 = 0 := by show am_u2 _ _ _ _ _ _ = _; rw [u2_p (by omega), u2_p (by omega), u2_p (by omega), u2_s]
  have f60 : M4 0 60 = 0 := by show am_u2 _ _ _ _ _ _ = _; rw [u2_p (by omega), u2_s]
  have m5 : am_G (am_ev (e + 6)) 182 [.ref 0, .int 1] (M, J, tm_R, tm_S, 77, 21637) = Lp e M5 J := by
    have j1 : am_G (am_ev (e + 5)) 177 [.ref 0, .int 1] (M4, J, tm_R, tm_S, 77, 21637) = some (none, (M5, J, tm_R, tm_S, 77, 21637)) := by
      rw [b177_0, f57, if_pos i0, if_pos i0, if_pos ⟨i0, Or.inr rfl⟩, if_pos i0, f60]
      simp only [k0]
      rfl
    rw [b182_0, if_pos (by rw [g.m8]; decide), if_neg (by decide : ¬ (1 : Int32) = 0)]
    refine (congrArg (fun z => am_call z _) j1).trans ?_
    rw [am_call_s, am_toN]
    exact b182_41 (e + 5) M5 J (some (.inr 1)) am_un
  have fr : ∀ a j, a ≠ 39 → a ≠ 40 → a ≠ 41 → a ≠ 43 → ¬ (a = 0 ∧ 57 ≤ j ∧ j ≤ 61) → M5 a j = M a j := fun a j h1 h2 h3 h4 h5 => by
    show am_u2 _ _ _ _ _ _ = _
    rw [fr1 (by omega), u2_c h4, u2_c h3, u2_c h2, u2_c h1]
    show am_u2 _ _ _ _ _ _ = _
    rw [fr1 (by omega), fr1 (by omega), fr1 (by omega), fr1 (by omega)]
  have s61 : M5 0 61 = 0 := by
    show am_u2 _ _ _ _ _ _ = _
    rw [u2_p (by omega), u2_c (by omega), u2_c (by omega), u2_c (by omega), u2_c (by omega)]; exact u2_s
  have s58 : M5 0 58 = nI 0 := by
    show am_u2 _ _ _ _ _ _ = _
    rw [u2_p (by omega), u2_c (by omega), u2_c (by omega), u2_c (by omega), u2_c (by omega)]
    show am_u2 _ _ _ _ _ _ = _
    rw [u2_p (by omega), u2_p (by omega), u2_s]; rfl
  have s60 : M5 0 60 = nI 0 := by
    show am_u2 _ _ _ _ _ _ = _
    rw [u2_p (by omega), u2_c (by omega), u2_c (by omega), u2_c (by omega), u2_c (by omega)]; exact f60
  have s39 : M5 39 0 = nI 1 := by show am_u2 _ _ _ _ _ _ = _; rw [u2_c (by omega), u2_c (by omega), u2_c (by omega), u2_c (by omega), u2_s]; rfl
  have s40 : M5 40 0 = nI 0 := by show am_u2 _ _ _ _ _ _ = _; rw [u2_c (by omega), u2_c (by omega), u2_c (by omega), u2_s]; rfl
  have s41 : M5 41 0 = 1 := by show am_u2 _ _ _ _ _ _ = _; rw [u2_c (by omega), u2_c (by omega), u2_s]
  have s43 : M5 43 0 = nI 0 := by show am_u2 _ _ _ _ _ _ = _; rw [u2_c (by omega), u2_s]; rfl
  have g5 : Gd T n C M5 J p q k v w := g.wr (fun _ _ _ _ => rfl) (fun b hb => fr _ _ (by omega) (by omega) (by omega) (by omega) (by omega)) (fun b => fr _ _ (by omega) (by omega) (by omega) (by omega) (by omega)) rfl
  have b5 : Fr x 0 1 0 0 la lb 0 C M5 := ⟨by rw [fr _ _ (by omega) (by omega) (by omega) (by omega) (by omega)]; exact h51, u2_s, s58, s39, s40, s43, bC, by rw [fr _ _ (by omega) (by omega) (by omega) (by omega) (by omega)]; exact b50, s60⟩
  have rm5 : RM (!x) M M5 := fun a j z1 z2 z3 => fr a j (by omega) (by omega) (by omega) (by omega) (by omega)
  obtain ⟨C3, M6, J3, c3, hh⟩ := tests (T := T) (n := n) (x := x) (Jc := Jc) 8 0 rfl 1 0 la lb 0 p q k v w C M5 J d e g5 b5 s61 s41 hla hlb (by omega) (Or.inl rfl) ⟨Nat.le_refl _, Or.inl rfl⟩
  have c3' : am_G (am_ev (d + 42)) 96 [.ref 1, .int 0] (C, Jc, (tc_R x), tc_S, 289, 11479) = some (none, (C3, Jc, (tc_R x), tc_S, 289, 11479)) := by
    rw [show d + 4 * 8 + 10 = d + 42 by omega] at c3; exact c3
  rcases hh with ⟨l1, A, B, R, p2, q2, k2, v2, w2, ph', a, h1, h2, h3, lA, lB, lp, hR, hl, hE, hN⟩ | ⟨l1, bx⟩
  · have pn := a.1.pn
    have f := a.fr b5
    have m6 := m_g409t (e := e) a.1 a.2.2.2.1 (by omega) a.2.2.2.2.2.1 h1 h2 (Or.inl f.2.2.2.1) h3 hN.1 hN.2
    rw [f.2.2.2.1] at m6
    obtain ⟨M7, j1, a7, j1f⟩ := a.jn b5 (by omega) (r := 1) (by omega) ⟨Nat.le_refl _, Or.inl rfl⟩ hR (by omega) (by omega) (e + 2)
    have l2 := (Lp_go (e := e) a.2.2.2.2.2.2 (m6.trans (m_cl1 a.1 j1))).2 (Or.inl rfl)
    have t7 := a7.2.2.1
    refine ⟨C3, M7, J3, c3', by rw [m5, l1, l2], Or.inl ⟨A, B ++ opz R, p2, q2, k2, v2, w2, a7.1, a7.2.1, rm5.tr t7.rm, ?_, lp, lA, by rw [List.length_append, opz_l]; omega, hE.ok (by omega)⟩⟩
    obtain ⟨t1, t2, t3, t4, t5, t6, t8, t9⟩ := t7
    refine ⟨t1, fun a j z1 z2 z3 => ?_, t3, t4, t5, t6⟩
    rw [t2 a j z1 z2 (by omega) (by omega) (by omega)]
    exact fr a j (by omega) (by omega) (by omega) (by omega) (by omega)
  · exact ⟨C3, M6, J3, c3', by rw [m5, l1], Or.inr (BdX.of RLw.rf rm5 (JF.rf _) bx)⟩
theorem law_ok : LawOK := by
  intro T n x C M J Jc p q k v w N la lb g hk hP hla hlb d e
  obtain ⟨C1, M1, J1, s, c1, m1, f1, f2, f3, sy, hgood, hbad⟩ := g.beg (Jc := Jc) hk hP (kd := 6) (by omega) (d + 56) (e + 6)
  have hx1 := xb1 (!x)
  have hy := tc_P4 (!x)
  have pn := g.pn
  have e51 : M 0 51 = nI (xb (!x)) := hP.2.2
  obtain ⟨n6c, n6m, n6⟩ := hP.1 6 (by omega)
  rw [cq6] at n6m
  rw [mx6] at n6
  have hP1 := hP.tf f1 f2 f3
  have ck : Int32.toNatClampNeg (nI (xb (!x))) = xb (!x) := nI_clamp (by omega)
  have hi2 : am_in (nI (xb (!x))) 2 := nI_in (by omega) (by omega)
  have hi16 : am_in (nI (8 * xb (!x) + N 6)) 16 ∨ N 6 = 8 := by
    by_cases z : N 6 = 8
    · exact Or.inr z
    · exact Or.inl (nI_in (by omega) (by omega))
  have m0 : am_G (am_ev (e + 10)) 198 [.ref 0] (M, J, tm_R, tm_S, 77, 21637) = am_ev (e + 10) 198 23 [.ref 0, am_un] [.int s] (M1, J1, tm_R, tm_S, 77, 21637) := by
    rw [b198_0, e51, if_pos hi2]
    simp only [ck]
    rw [n6m]
    rcases m1 with ⟨z, m1⟩ | ⟨z, m1⟩
    · rw [mx6] at z
      rw [if_pos (by rw [z]; rfl), m1, am_call_s, am_toL]
    · rw [mx6] at z
      rw [if_neg (fun y => by have := (nI_eq (b := 8) (by omega) (by omega)).mp y; omega), m1, am_call_s, am_toL]
  have c0 : am_G (am_ev (d + 60)) 95 [.ref 1] (C, Jc, (tc_R x), tc_S, 289, 11479) = am_ev (d + 60) 95 6 [.ref 1, am_un, am_un] [] (C1, Jc, (tc_R x), tc_S, 289, 11479) := by
    rw [b95_0]
    refine (congrArg (fun z => am_call z _) c1).trans ?_
    rw [am_call_s, am_toN]
  by_cases h8 : M1 0 8 = 0
  · obtain ⟨rfl, n8⟩ := hgood h8
    rw [mx6] at n8
    have hi := hi16.resolve_right (by omega)
    have ci : Int32.toNatClampNeg (nI (8 * xb (!x) + N 6)) = 8 * xb (!x) + N 6 := nI_clamp (by omega)
    obtain ⟨C2, M2, J2, c2, m2, q1, q2, q3, sy2, hq⟩ := sy.must (x := x) (Jc := Jc) (j := 20) (by omega) (c := 2003330414) rfl (d + 56) (e + 6)
    have hP2 := hP1.tf q1 q2 q3
    have rc2 : RC (!x) C C2 := f1.rc.tr q1.rc
    have rm2 : RM (!x) M M2 := f2.rm.tr q2.rm
    have rj2 : RJ (!x) J J2 := f3.rj.tr q3.rj
    obtain ⟨n6c2, n6m2, _⟩ := hP2.1 6 (by omega)
    rw [cq6] at n6m2
    have l33 := hP2.2.1.2.2.2.2.2.2.2.2.2.1
    have l50 := hP2.2.1.2.2.2.2.2.2.2.2.2.2.1
    have e512 : M2 0 51 = nI (xb (!x)) := hP2.2.2
    have m23 : am_G (am_ev (e + 10)) 198 [.ref 0] (M, J, tm_R, tm_S, 77, 21637) = am_ev (e + 10) 198 52 [.ref 0, .int (nI (8 * xb (!x) + N 6))] [] (M2, J2, tm_R, tm_S, 77, 21637) := by
      have e1 : M1 0 51 = nI (xb (!x)) := hP1.2.2
      have e2 : M1 34 (xb (!x)) = nI (N 6) := by rw [f2 _ _ (fun z => by omega)]; exact n6m
      rw [m0, b198_23, if_neg (by decide : ¬ (1 : Int32) = 0), e1, if_pos hi2]
      simp only [ck]
      rw [e2, show (8 : Int32) = nI 8 from rfl, nI_ix]
      refine (congrArg (fun z => am_call z _) m2).trans ?_
      rw [am_call_s, am_toN]
    have c13 : am_G (am_ev (d + 60)) 95 [.ref 1] (C, Jc, (tc_R x), tc_S, 289, 11479) = am_call (am_G (am_ev (d + 59)) 96 [.ref 1, .int 0] (C2, Jc, (tc_R x), tc_S, 289, 11479)) (fun r M => am_ev (d + 60) 95 29 [.ref 1, .int (nI la), am_un] (r.toList ++ []) M) := by
      rw [c0, b95_6]
      refine (congrArg (fun z => am_call z _) c2).trans ?_
      rw [am_call_s, am_toN, b95_13, l33]
    have m52 : am_G (am_ev (e + 10)) 198 [.ref 0] (M, J, tm_R, tm_S, 77, 21637) = if M2 0 8 = 0 then am_call (am_G (am_ev (e + 9)) 182 [.ref 0, .int 1] (am_u2 M2 35 (8 * xb (!x) + N 6) (nI lb), J2, tm_R, tm_S, 77, 21637)) (fun r M => am_ev (e + 10) 198 74 [.ref 0, .int (nI (8 * xb (!x) + N 6))] (r.toList ++ []) M) else am_ev (e + 10) 198 74 [.ref 0, .int (nI (8 * xb (!x) + N 6))] [] (am_u2 M2 35 (8 * xb (!x) + N 6) (nI lb), J2, tm_R, tm_S, 77, 21637) := by
      rw [m23, b198_52, if_pos hi, l50]
      simp only [ci]
    by_cases h82 : M2 0 8 = 0
    · obtain ⟨p1, q1', k1, v1, w1, g2, lo⟩ := sy2.gd h82
      have pn1 := g2.pn
      rw [if_pos h82] at m52
      have g3 : Gd T n C2 (am_u2 M2 35 (8 * xb (!x) + N 6) (nI lb)) J2 p1 q1' k1 v1 w1 := g2.uM (by omega) _
      have rm3 : RM (!x) M (am_u2 M2 35 (8 * xb (!x) + N 6) (nI lb)) := rm2.u (by omega) (by omega) (show 8 * xb (!x) ≤ _ by omega) (show _ < 8 * xb (!x) + 8 by omega) _
      have hP3 : PG (!x) N la lb C2 (am_u2 M2 35 (8 * xb (!x) + N 6) (nI lb)) J2 := hP2.2.1.fr (by have := (hP2.1 2 (by omega)).2.2; exact this) (fun _ _ _ _ => rfl) (fun a k h1 h2 h3 => by
        by_cases z : a = 35
        · subst z
          have h3' : k < N 6 := h3
          rw [u2_p (show sdd 35 * xb (!x) + k ≠ _ by show 8 * xb (!x) + k ≠ _; omega)]
        · rw [u2_c z]) (u2_c (by omega)) (fun _ _ _ _ => rfl)
      obtain ⟨C3, M7, J3, c3, m7, hh⟩ := law_go (x := x) (Jc := Jc) g3 (by rw [u2_c (by omega)]; exact e512) hP3 (by omega) (by omega) (d + 17) (e + 3)
      have c29 : am_G (am_ev (d + 60)) 95 [.ref 1] (C, Jc, (tc_R x), tc_S, 289, 11479) = am_ev (d + 60) 95 29 [.ref 1, .int (nI la), am_un] [] (C3, Jc, (tc_R x), tc_S, 289, 11479) := by
        rw [c13]
        refine (congrArg (fun z => am_call z _) c3).trans ?_
        rw [am_call_s, am_toN]
      have m74 : am_G (am_ev (e + 10)) 198 [.ref 0] (M, J, tm_R, tm_S, 77, 21637) = am_ev (e + 10) 198 74 [.ref 0, .int (nI (8 * xb (!x) + N 6))] [] (M7, J3, tm_R, tm_S, 77, 21637) := by
        rw [m52]
        refine (congrArg (fun z => am_call z _) m7).trans ?_
        rw [am_call_s, am_toN]
      rcases hh with ⟨A, B, p2, q2', k2, v2, w2, g7, rj7, rm7, ⟨t1, t2, t3, t4, t5, t6⟩, lp, lA, lB, ok⟩ | bx
      · have pn2 := g7.pn
        have o6 : C3 (tc_P (!x) + 1) 6 = nI (N 6) := by rw [t1 _ _ (by omega) (by omega) (by omega)]; exact n6c2
        have w7 := c_95w (Jc := Jc) (a := nI la) (v2 := am_un) o6 n8 g7.c7 (d + 59)
        rw [t3] at w7
        have h34 : M7 34 (xb (!x)) = nI (N 6) := by rw [t2 _ _ (by omega) (by omega) (by omega), u2_c (by omega)]; exact n6m2
        have h51 : M7 0 51 = nI (xb (!x)) := by rw [t2 _ _ (by omega) (by omega) (by omega), u2_c (by omega)]; exact e512
        have m8 : am_ev (e + 10) 198 74 [.ref 0, .int (nI (8 * xb (!x) + N 6))] [] (M7, J3, tm_R, tm_S, 77, 21637) = some (none, (am_u2 (am_u2 M7 36 (8 * xb (!x) + N 6) (nI (lb + B.length))) 34 (xb (!x)) (nI (N 6 + 1)), J3, tm_R, tm_S, 77, 21637)) := by
          rw [b198_74, if_pos hi, if_pos g7.m8, h51, if_pos hi2, if_pos hi2, t5]
          simp only [ci, ck]
          rw [h34, nI_1]
        have gF : Gd T n (am_u2 (am_u2 (am_u2 C3 (tc_P (!x) + 35) (N 6) (nI la)) (tc_P (!x) + 35) (N 6 + 1) (nI (la + A.length))) (tc_P (!x) + 1) 6 (nI (N 6 + 1))) (am_u2 (am_u2 M7 36 (8 * xb (!x) + N 6) (nI (lb + B.length))) 34 (xb (!x)) (nI (N 6 + 1))) J3 p2 q2' k2 v2 w2 := ((g7.uM (by omega) _).uM (by omega) _).wr (fun a b h1 h2 => by rw [u2_c (by omega), u2_c (by omega), u2_c (by omega)]) (fun _ _ => rfl) (fun _ => rfl) rfl
        have rcF : RC (!x) C3 (am_u2 (am_u2 (am_u2 C3 (tc_P (!x) + 35) (N 6) (nI la)) (tc_P (!x) + 35) (N 6 + 1) (nI (la + A.length))) (tc_P (!x) + 1) 6 (nI (N 6 + 1))) := ((RC.rf.u (by omega) _).u (by omega) _).u (by omega) _
        have rc3 : RC (!x) C2 C3 := fun a b z1 z2 => t1 a b z1 (by omega) (by omega)
        have rmF : RM (!x) M7 (am_u2 (am_u2 M7 36 (8 * xb (!x) + N 6) (nI (lb + B.length))) 34 (xb (!x)) (nI (N 6 + 1))) := (RM.rf.u (by omega) (by omega) (show 8 * xb (!x) ≤ _ by omega) (show _ < 8 * xb (!x) + 8 by omega) _).u (by omega) (by omega) (show 1 * xb (!x) ≤ _ by omega) (show _ < 1 * xb (!x) + 1 by omega) _
        refine ⟨_, _, J3, c29.trans w7, m74.trans m8, (rc2.tr rc3).tr rcF, (rm3.tr rm7).tr rmF, rj2.tr rj7.rj, p2, by omega, gF.sy, fun _ => ⟨upN N 6, la + A.length, lb + B.length, ⟨?_, ?_, ?_⟩, by omega, by omega⟩⟩
        · refine hP2.1.up (qd := 6) (by omega) (by rw [mx6]; exact n8) (fun i hi9 => ?_) (fun i hi9 => ?_)
          · by_cases z : i = 6
            · rw [if_pos z, z, u2_s]
            · rw [if_neg z, u2_p z, u2_c (by omega), u2_c (by omega), t1 _ _ (by omega) (by omega) (by omega)]
          · by_cases z : i = 6
            · rw [if_pos z, z, cq6, u2_s]
            · have c1 : cqq i ≠ 34 ∧ 2 ≤ cqq i ∧ cqq i ≤ 34 ∧ cqq i ≠ 36 ∧ cqq i ≠ 35 := by
                rcases (by omega : i = 0 ∨ i = 1 ∨ i = 2 ∨ i = 3 ∨ i = 4 ∨ i = 5 ∨ i = 7 ∨ i = 8) with rfl | rfl | rfl | rfl | rfl | rfl | rfl | rfl <;> decide
              rw [if_neg z, u2_c c1.1, u2_c (by omega), t2 _ _ (by omega) (by omega) (by omega), u2_c (by omega)]
        · refine hP2.2.1.law (A := A) (B := B) (by have := (hP2.1 2 (by omega)).2.2; exact this) n8 (by omega) (fun o k ho h1 => ?_) (fun k hk => ?_) (fun k hk => ?_) ?_ ?_ ?_ (fun i hi9 => ?_) (fun a k h1 h2 => ?_) (fun k hk => ⟨?_, ?_⟩) (fun k hk => ⟨?_, ?_⟩) ?_ ?_ ?_ (fun i hi9 => ?_) ok (fun q k hq5 hk => ?_)
          · rw [u2_c (by omega), u2_c (by omega), u2_c (by omega), t1 _ _ (by omega) (by omega) (by omega)]
          · rw [u2_c (by omega), u2_c (by omega), u2_c (by omega), t1 _ _ (by omega) (by omega) (by omega)]
          · rw [u2_c (by omega), u2_p (by omega), u2_p (by omega), t1 _ _ (by omega) (by omega) (by omega)]
          · rw [u2_c (by omega), u2_p (by omega), u2_s]
          · rw [u2_c (by omega), u2_s]
          · rw [u2_c (by omega), u2_c (by omega), u2_c (by omega)]; exact t3
          · rw [u2_c (by omega), u2_c (by omega), u2_c (by omega)]; exact t4 i hi9
          · rw [u2_c (by omega), u2_c (by omega), t2 _ _ (by omega) (by omega) (by omega), u2_c (by omega)]
          · rw [u2_c (by omega), u2_c (by omega), t2 _ _ (by omega) (by omega) (by omega), u2_p (by omega)]
          · rw [u2_c (by omega), u2_p (by omega), t2 _ _ (by omega) (by omega) (by omega), u2_c (by omega)]
          · rw [u2_c (by omega), u2_c (by omega), t2 _ _ (by omega) (by omega) (by omega), u2_c (by omega)]
          · rw [u2_c (by omega), u2_c (by omega), t2 _ _ (by omega) (by omega) (by omega), u2_c (by omega)]
          · rw [u2_c (by omega), u2_c (by omega), t2 _ _ (by omega) (by omega) (by omega), u2_s]
          · rw [u2_c (by omega), u2_s]
          · rw [u2_c (by omega), u2_c (by omega)]; exact t5
          · rw [u2_c (by omega), u2_c (by omega), u2_c (by omega), u2_c (by omega)]; exact t6 i hi9
          · exact rj7 _ _ (jk_0 hq5)
        · rw [u2_c (by omega), u2_c (by omega)]; exact h51
      · have o6 : C3 (tc_P (!x) + 1) 6 = nI (N 6) := by rw [bx.1 _ _ (by omega) (by omega) (by omega)]; exact n6c2
        obtain ⟨C4, d1, d2, d3⟩ := c_95b (Jc := Jc) (a := nI la) (v2 := am_un) o6 (Or.inl n8) (d + 59)
        have bd := bx.2.2.2.1
        have n0 := bd.m8
        have rcA : RC (!x) C C4 := (rc2.tr bx.1.rc).tr d2
        have rmA : RM (!x) M (am_u2 M7 36 (8 * xb (!x) + N 6) (M7 0 50)) := (rm3.tr bx.2.1).u (by omega) (by omega) (show 8 * xb (!x) ≤ _ by omega) (show _ < 8 * xb (!x) + 8 by omega) _
        refine ⟨C4, _, J3, c29.trans d1, m74.trans ?_, rcA, rmA, rj2.tr bx.2.2.1.rj, p + 1, by omega, law_bad g.1.1 g.1.2.2.2.2.2 rcA rmA (bd.wr (fun b => d3 1 b (by omega)) (fun b hb => u2_c (by omega))) _, fun z => absurd (show M7 0 8 = 0 by rw [u2_c (by omega)] at z; exact z) n0⟩
        rw [b198_74, if_pos hi, if_neg n0]
        simp only [ci]
    · have bd := sy2.bdd h82
      rw [if_neg h82] at m52
      obtain ⟨C3, d1, d2, d3⟩ := BdL.tst (x := x) (M := M2) (Jc := Jc) ⟨bd, la, by omega, l33⟩ 0 (d + 51)
      have o6 : C3 (tc_P (!x) + 1) 6 = nI (N 6) := by rw [d2 _ _ (by omega) (by omega) (by omega)]; exact n6c2
      obtain ⟨C4, d4, d5, d6⟩ := c_95b (Jc := Jc) (a := nI la) (v2 := am_un) o6 (Or.inl n8) (d + 59)
      have rcA : RC (!x) C C4 := (rc2.tr d2.rc).tr d5
      have rmA : RM (!x) M (am_u2 (am_u2 M2 35 (8 * xb (!x) + N 6) (nI lb)) 36 (8 * xb (!x) + N 6) (am_u2 M2 35 (8 * xb (!x) + N 6) (nI lb) 0 50)) := (rm2.u (by omega) (by omega) (show 8 * xb (!x) ≤ _ by omega) (show _ < 8 * xb (!x) + 8 by omega) _).u (by omega) (by omega) (show 8 * xb (!x) ≤ _ by omega) (show _ < 8 * xb (!x) + 8 by omega) _
      have f8 : am_u2 (am_u2 M2 35 (8 * xb (!x) + N 6) (nI lb)) 36 (8 * xb (!x) + N 6) (am_u2 M2 35 (8 * xb (!x) + N 6) (nI lb) 0 50) 0 8 = M2 0 8 := by rw [u2_c (by omega), u2_c (by omega)]
      refine ⟨C4, _, J2, ?_, m52.trans ?_, rcA, rmA, rj2, p + 1, by omega, law_bad g.1.1 g.1.2.2.2.2.2 rcA rmA (d3.1.wr (fun b => d6 1 b (by omega)) (fun b hb => by rw [u2_c (by omega), u2_c (by omega)])) _, fun z => absurd (f8.symm.trans z) h82⟩
      · rw [c13]
        refine (congrArg (fun z => am_call z _) d1).trans ?_
        rw [am_call_s, am_toN]
        exact d4
      · rw [b198_74, if_pos hi, if_neg (by rw [u2_c (by omega)]; exact h82)]
        simp only [ci]
  · obtain ⟨rfl, bd⟩ := hbad h8
    obtain ⟨C2, a1, a2, a3, a4⟩ := bd.tk (Jc := Jc) (x := x) (c := 3) (by decide) 20 (d + 57)
    have l33 : C2 (tc_P (!x) + 33) 2 = nI la := by rw [a2 _ _ (fun z => by omega)]; exact hP1.2.1.2.2.2.2.2.2.2.2.2.1
    obtain ⟨C3, d1, d2, d3⟩ := BdL.tst (x := x) (M := M1) (Jc := Jc) ⟨a3, la, by omega, l33⟩ 0 (d + 51)
    have o6 : C3 (tc_P (!x) + 1) 6 = nI (N 6) := by
      rw [d2 _ _ (by omega) (by omega) (by omega), a2 _ _ (fun z => by omega)]; exact (hP1.1 6 (by omega)).1
    have h68 : N 6 < 8 ∨ ¬ C3 1 7 = 0 := by
      rcases m1 with ⟨z, m1⟩ | ⟨z, _⟩
      · refine Or.inr ?_
        have m5 := g.failM (e + 7) 5
        rw [b183_0, if_pos g.m8, if_neg (by decide : ¬ (1 : Int32) = 0)] at m1
        have m1 := (congrArg (fun z => am_call z _) m5).symm.trans m1
        rw [am_call_s, am_toN, b183_20, Fmm_8, if_neg (by decide), b183_31, Fmm_8, if_neg (by decide)] at m1
        have e1 : Fmm M 5 p = M1 := congrArg (fun z : Option (Option Value × am_M) => match z with | some (_, M) => M.1 | none => M) m1
        obtain ⟨f, p0, f0, f5, _, m8, _, _, cc⟩ := d3.1
        rw [← e1, Fmm_8] at m8
        have : f = 5 := ((nI_eq (by omega) (by omega)).mp m8).symm
        rcases cc with ⟨c7, _⟩ | ⟨_, z1, _⟩
        · rw [c7]; exact nI_nz f0 (by omega)
        · omega
      · rw [mx6] at z; exact Or.inl z
    obtain ⟨C4, d4, d5, d6⟩ := c_95b (Jc := Jc) (a := C2 (tc_P (!x) + 33) 2) (v2 := am_un) o6 h68 (d + 59)
    have rcA : RC (!x) C C4 := ((f1.rc.tr a2.rc).tr d2.rc).tr d5
    refine ⟨C4, M1, J1, ?_, ?_, rcA, f2.rm, f3.rj, p + 1, by omega, law_bad g.1.1 g.1.2.2.2.2.2 rcA f2.rm (d3.1.wr (fun b => d6 1 b (by omega)) (fun _ _ => rfl)) _, fun z => absurd z h8⟩
    · rw [c0, b95_6]
      refine (congrArg (fun z => am_call z _) a1).trans ?_
      rw [am_call_s, am_toN, b95_13]
      refine (congrArg (fun z => am_call z _) d1).trans ?_
      rw [am_call_s, am_toN]
      exact d4
    · rw [m0, b198_23, if_pos rfl]
theorem k_works' {x : Bool} {C M : tI} {J Jc : tJ} (h : Rl x C M J) : Lk 112 201 [] x C M Jc J := k_works law_ok h
end LWK
