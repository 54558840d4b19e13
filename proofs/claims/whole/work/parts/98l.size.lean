/-! the statement of a size (printed by genst.py) -/
section SIZ
variable {T : Nat → Nat} {n lo p q k v la lb : Nat} {w : List Nat} {x y : Bool} {C M C' M' : tI} {J J' Jc : tJ} {N : Nat → Nat}
def szv (s o : Nat) : Int32 := if o = s then 0 else 1
def szP (M : tI) (b s l : Nat) (M' : tI) : Prop := (∀ a j, a ≠ 19 → M' a j = M a j) ∧ (∀ o, o < l → M' 19 (6 * (6 * b + s) + o) = szv s o ∧ M' 19 (6 * (6 * b + o) + s) = szv s o) ∧ (∀ r c, r < 6 → c < 6 → r ≠ s → c ≠ s → M' 19 (6 * (6 * b + r) + c) = M 19 (6 * (6 * b + r) + c)) ∧ ∀ j, j < 36 * b ∨ 36 * b + 36 ≤ j → M' 19 j = M 19 j
theorem m_szl {b s : Nat} (hb : b ≤ 1) (hs : s < 6) (h8 : M 0 8 = 0) (h51 : M 0 51 = nI b) (h11 : M 11 b = nI s) (e : Nat) : ∀ m l (M' : tI), l + m = 6 → szP M b s l M' → ∃ M'', am_ev (e + 1) 189 77 [.ref 0, .int (nI (6 * b + s)), .int (nI l)] [] (M', J, tm_R, tm_S, 77, 21637) = am_ev (e + 1) 189 170 [.ref 0, .int (nI (6 * b + s)), .int (nI 6)] [] (M'', J, tm_R, tm_S, 77, 21637) ∧ szP M b s 6 M'' := by
  have hin : am_in (nI b) 2 := nI_in (by omega) (by omega)
  have cb : Int32.toNatClampNeg (nI b) = b := nI_clamp (by omega)
  intro m
  induction m with
  | zero =>
    intro l M' hl hP
    obtain rfl : l = 6 := by omega
    refine ⟨M', ?_, hP⟩
    rw [b189_77, if_pos (by decide : (6 : Int32) ≤ nI 6)]
  | succ m ih =>
    intro l M' hl hP
    obtain ⟨p1, p2, p3, p4⟩ := hP
    have q8 : M' 0 8 = 0 := (p1 0 8 (by omega)).trans h8
    have q51 : M' 0 51 = nI b := (p1 0 51 (by omega)).trans h51
    have q11 : M' 11 b = nI s := (p1 11 b (by omega)).trans h11
    have x1 : (6 : Int32) * nI (6 * b + s) + nI l = nI (6 * (6 * b + s) + l) := nI_ix 6 _ _
    have x2 : (6 : Int32) * ((6 : Int32) * nI b + nI l) + nI s = nI (6 * (6 * b + l) + s) := by
      rw [show (6 : Int32) * nI b + nI l = nI (6 * b + l) from nI_ix 6 _ _]
      exact nI_ix 6 _ _
    have ck : Int32.toNatClampNeg (nI (6 * (6 * b + s) + l)) = 6 * (6 * b + s) + l := nI_clamp (by omega)
    have cm : Int32.toNatClampNeg (nI (6 * (6 * b + l) + s)) = 6 * (6 * b + l) + s := nI_clamp (by omega)
    have key : am_ev (e + 1) 189 77 [.ref 0, .int (nI (6 * b + s)), .int (nI l)] [] (M', J, tm_R, tm_S, 77, 21637) = am_ev (e + 1) 189 77 [.ref 0, .int (nI (6 * b + s)), .int (nI (l + 1))] [] (am_u2 (am_u2 M' 19 (6 * (6 * b + s) + l) (szv s l)) 19 (6 * (6 * b + l) + s) (szv s l), J, tm_R, tm_S, 77, 21637) := by
      (rw [b189_77, if_neg (geL (c := 6) 6 rfl (by omega) (by omega)), if_pos q8, q51, if_pos hin]; (try simp only [cb]); rw [q11, x1])
      by_cases z : l = s
      · subst z
        (rw [if_pos rfl, b189_118, if_pos (nI_in (by omega) (by omega)), q51, if_pos hin, if_pos hin]; (try simp only [cb]); rw [q11, if_pos rfl, x2, if_pos (nI_in (by omega) (by omega))]; (try simp only [ck]); (try simp only [cm]); rw [nI_1])
        unfold szv
        rw [if_pos rfl]
      · have z2 : ¬ nI l = nI s := fun y => z ((nI_eq (by omega) (by omega)).mp y)
        (rw [if_neg z2, b189_118, if_pos (nI_in (by omega) (by omega)), q51, if_pos hin, if_pos hin]; (try simp only [cb]); rw [q11, if_neg z2, x2, if_pos (nI_in (by omega) (by omega))]; (try simp only [ck]); (try simp only [cm]); rw [nI_1])
        unfold szv
        rw [if_neg z]
    rw [key]
    refine ih (l + 1) _ (by omega) ⟨fun a j ha => ?_, fun o ho => ⟨?_, ?_⟩, fun r c hr hc h1 h2 => ?_, fun j hj => ?_⟩
    · rw [u2_c ha, u2_c ha]; exact p1 a j ha
    · by_cases zo : o = l
      · subst zo
        by_cases z3 : 6 * (6 * b + s) + o = 6 * (6 * b + o) + s
        · rw [u2_e rfl z3]
        · rw [u2_p z3, u2_s]
      · rw [u2_p (by omega), u2_p (by omega)]; exact (p2 o (by omega)).1
    · by_cases zo : o = l
      · subst zo; rw [u2_s]
      · rw [u2_p (by omega), u2_p (by omega)]; exact (p2 o (by omega)).2
    · rw [u2_p (by omega), u2_p (by omega)]; exact p3 r c hr hc h1 h2
    · rw [u2_p (by omega), u2_p (by omega)]; exact p4 j hj
theorem st_size (g : Gd T n C M J p q k v w) (hk : k = 3) (hP : PL x N la lb C M J) (hla : la ≤ p) (hlb : lb ≤ p) (d e : Nat) : Stm x T n 87 189 p C M J Jc d e := by
  have hb1 := xb1 (!x)
  have hy := tc_P4 (!x)
  have nk : N 2 ≤ 6 := (hP.1 2 (by omega)).2.2
  have n2 : N 2 ≤ 6 := (hP.1 2 (by omega)).2.2
  have i51 : M 0 51 = nI (xb (!x)) := hP.2.2
  have hin : am_in (nI (xb (!x))) 2 := nI_in (by omega) (by omega)
  have cb : Int32.toNatClampNeg (nI (xb (!x))) = xb (!x) := nI_clamp (by omega)
  have kc1 : M 11 (xb (!x)) = nI (N 2) := (hP.1 2 (by omega)).2.1
  obtain ⟨C1, M1, J1, s, b1, b2, b3, b4, b5, b6, b7, b8⟩ := g.beg (Jc := Jc) hk hP (kd := 2) (by omega) (d + 56) (e + 6)
  have m0 : am_G (am_ev (e + 10)) 189 [.ref 0] (M, J, tm_R, tm_S, 77, 21637) = am_ev (e + 10) 189 23 [.ref 0, am_un, am_un] [.int s] (M1, J1, tm_R, tm_S, 77, 21637) := by
    (rw [b189_0, i51, if_pos hin]; (try simp only [cb]); rw [kc1])
    rcases b2 with ⟨z, b2⟩ | ⟨z, b2⟩
    · have z : N 2 = 6 := z
      rw [if_pos (by rw [z]; rfl), b2, am_call_s, am_toL]
    · have z : N 2 < 6 := z
      rw [if_neg (neR (c := 6) 6 rfl (by omega) (by omega) (by omega)), b2, am_call_s, am_toL]
  by_cases h8 : M1 0 8 = 0
  · obtain ⟨rfl, hlt0⟩ := b7 h8
    have hlt : N 2 < 6 := hlt0
    have i51a : M1 0 51 = nI (xb (!x)) := (b4 0 51 (by omega)).trans i51
    have kca : M1 11 (xb (!x)) = nI (N 2) := (b4 11 _ (by omega)).trans kc1
    have ix : (6 : Int32) * nI (xb (!x)) + nI (N 2) = nI (6 * xb (!x) + N 2) := nI_ix 6 _ _
    have ii : am_in (nI (6 * xb (!x) + N 2)) 12 := nI_in (by omega) (by omega)
    have ct : Int32.toNatClampNeg (nI (6 * xb (!x) + N 2)) = (6 * xb (!x) + N 2) := nI_clamp (by omega)
    have nm0 : Nm (!x) C1 M1 J1 := hP.nm.tf b3 b4 b5
    obtain ⟨C2, M2, J2, u1, w1, r1a, r1b, r1c, r1d, r1e, r1f, r1g⟩ := Sy.fresh (Jc := Jc) (x := x) b6 nm0 (d + 56) (e + 5)
    have nm1 : Nm (!x) C2 M2 J2 := nm0.tf r1c r1d r1e
    have s1 := r1f.uJ (c := 12) (i := (6 * xb (!x) + N 2)) (by omega) w1
    have cK : Int32.toNatClampNeg (M2 (kc 2) (xb (!x))) ≤ N 2 := by
      have e1 : M2 11 (xb (!x)) = nI (N 2) := by rw [r1d 11 _ (by omega), b4 11 _ (by omega)]; exact kc1
      have e2 : Int32.toNatClampNeg (M2 11 (xb (!x))) = N 2 := by rw [e1]; exact nI_clamp (by omega)
      exact Nat.le_of_eq e2
    have nm1s : Nm (!x) C2 M2 (am_u2 J2 12 (6 * xb (!x) + N 2) w1) := nm1.uJ (qd := 2) (i := N 2) (by omega) cK w1
    obtain ⟨C3, M3, J3, r2a, r2b, r2c, r2d, r2e, r2f, r2g⟩ := Sy.must (Jc := Jc) (x := x) s1 (j := 8) (by omega) (c := 427172193651) (by decide) (d + 56) (e + 6)
    have nm2 : Nm (!x) C3 M3 J3 := nm1s.tf r2c r2d r2e
    obtain ⟨C4, M4, J4, u3, w3, r3a, r3b, r3c, r3d, r3e, r3f, r3g⟩ := Sy.num (Jc := Jc) (x := x) r2f (a := 1) (a' := 1) (b := 99) (l0 := 1) (hi := 99) rfl (by omega) (fun _ => ⟨rfl, rfl, by omega⟩) (d + 56) (e + 6)
    have nm3 : Nm (!x) C4 M4 J4 := nm2.tf r3c r3d r3e
    have tfC : TF C C4 := (((b3.tr r1c).tr r2c).tr r3c)
    have fM : ∀ a j, (a = 0 → j < 3 ∨ 9 < j) → M4 a j = M a j := fun a j h0  => by rw [r3d a j h0, r2d a j h0, r1d a j h0, b4 a j h0]
    have fJ : ∀ a j, (a = 0 → j ≠ 7) → ¬ (a = 12 ∧ j = (6 * xb (!x) + N 2)) → J4 a j = J a j := fun a j h0 q1 => by rw [r3e a j h0, r2e a j h0, fr1J (orr (fun z1 z2 => q1 ⟨z1, z2⟩)), r1e a j h0, b5 a j h0]
    have i51z : M4 0 51 = nI (xb (!x)) := (fM 0 51 (by omega) ).trans i51
    have kcz : M4 11 (xb (!x)) = nI (N 2) := (fM 11 _ (by omega) ).trans kc1
    have cN : C (tc_P (!x) + 1) 2 = nI (N 2) := (hP.1 2 (by omega)).1
    have cNz : C4 (tc_P (!x) + 1) 2 = nI (N 2) := (tfC _ _ (by omega)).trans cN
    have cs : Int32.toNatClampNeg (nI (N 2)) = N 2 := nI_clamp (by omega)
    have hs : am_in (nI (N 2)) 6 := nI_in (by omega) (by omega)
    have cc : ∀ Z, am_ev (d + 60) 87 24 [.ref 1, .int u1, am_un] [.int u3] (C4, Jc, (tc_R x), tc_S, 289, 11479) = Z → am_G (am_ev (d + 60)) 87 [.ref 1] (C, Jc, (tc_R x), tc_S, 289, 11479) = Z := by
      intro Z hZ
      refine (b87_0 _ _ _ _).trans ((congrArg (fun z => am_call z _) b1).trans ?_)
      rw [am_call_s, am_toN, b87_5]
      refine (congrArg (fun z => am_call z _) r1a).trans ?_
      rw [am_call_s, am_toL, b87_9]
      refine (congrArg (fun z => am_call z _) r2a).trans ?_
      rw [am_call_s, am_toN, b87_17]
      refine (congrArg (fun z => am_call z _) r3a).trans ?_
      rw [am_call_s, am_toL]
      exact hZ
    have mz : ∀ Z, am_ev (e + 10) 189 74 [.ref 0, .int (nI (6 * xb (!x) + N 2)), am_un] [.int w3, .int (nI (6 * xb (!x) + N 2)), .ref 13] (M4, J4, tm_R, tm_S, 77, 21637) = Z → am_G (am_ev (e + 10)) 189 [.ref 0] (M, J, tm_R, tm_S, 77, 21637) = Z := by
      intro Z hZ
      (rw [m0, b189_23, if_neg (by decide : ¬ (1 : Int32) = 0), i51a, if_pos hin]; (try simp only [cb]); rw [kca, ix])
      refine (congrArg (fun z => am_call z _) r1b).trans ?_
      (rw [am_call_s, am_toL, b189_54, if_pos ii]; (try simp only [ct]))
      refine (congrArg (fun z => am_call z _) r2b).trans ?_
      rw [am_call_s, am_toN, b189_62]
      refine (congrArg (fun z => am_call z _) r3b).trans ?_
      rw [am_call_s, am_toL]
      exact hZ
    have cA : C4 1 7 = 0 → am_G (am_ev (d + 60)) 87 [.ref 1] (C, Jc, (tc_R x), tc_S, 289, 11479) = some (none, ((am_u2 (am_u2 (am_u2 C4 (tc_P (!x) + 3 + 2) (N 2) u1) (tc_P (!x) + 1) 2 (nI (N 2 + 1))) (tc_P (!x) + 13) (N 2) u3), Jc, (tc_R x), tc_S, 289, 11479)) := fun z => cc _ (by
      rw [b87_24, if_pos z]
      refine (congrArg (fun z => am_call z _) (c_add (Jc := Jc) (x := x) (qd := 2) (by omega) cNz (by omega) u1 (d + 58))).trans ?_
      (rw [am_call_s, am_toL, b87_48, if_pos hs]; (try simp only [cs])))
    have e74 : am_ev (e + 10) 189 74 [.ref 0, .int (nI (6 * xb (!x) + N 2)), am_un] [.int w3, .int (nI (6 * xb (!x) + N 2)), .ref 13] (M4, J4, tm_R, tm_S, 77, 21637) = am_ev (e + 10) 189 77 [.ref 0, .int (nI (6 * xb (!x) + N 2)), .int 0] [] (am_u2 M4 13 (6 * xb (!x) + N 2) w3, J4, tm_R, tm_S, 77, 21637) := by (rw [b189_74, if_pos ii]; (try simp only [ct]))
    have rc : RC (!x) C (am_u2 (am_u2 (am_u2 C4 (tc_P (!x) + 3 + 2) (N 2) u1) (tc_P (!x) + 1) 2 (nI (N 2 + 1))) (tc_P (!x) + 13) (N 2) u3) := (((tfC.rc (y := !x)).vv (c := tc_P (!x) + 3 + 2) (k := N 2) (by omega) u1).vv (c := tc_P (!x) + 1) (k := 2) (by omega) (nI (N 2 + 1))).vv (c := tc_P (!x) + 13) (k := N 2) (by omega) u3
    have rm13 : RM (!x) M (am_u2 M4 13 (6 * xb (!x) + N 2) w3) := ((((b4.rm (y := !x)).tr r1d.rm).tr r2d.rm).tr r3d.rm).u (c := 13) (i := (6 * xb (!x) + N 2)) (by omega) (by omega) (show 6 * xb (!x) ≤ _ by omega) (show _ < 6 * xb (!x) + 6 by omega) w3
    have rj : RJ (!x) J J4 := (((((b5.rj (y := !x)).tr r1e.rj).u (c := 12) (i := (6 * xb (!x) + N 2)) (by omega) (by omega) (show 6 * xb (!x) ≤ _ by omega) (show _ < 6 * xb (!x) + 6 by omega) w1).tr r2e.rj).tr r3e.rj)
    have s13 : Sy T n (p + 1) C4 (am_u2 M4 13 (6 * xb (!x) + N 2) w3) J4 := r3f.uM (c := 13) (i := (6 * xb (!x) + N 2)) (by omega) w3
    have sC : ∀ {M' : tI}, Sy T n (p + 1) C4 M' J4 → Sy T n (p + 1) (am_u2 (am_u2 (am_u2 C4 (tc_P (!x) + 3 + 2) (N 2) u1) (tc_P (!x) + 1) 2 (nI (N 2 + 1))) (tc_P (!x) + 13) (N 2) u3) M' J4 := fun h => ((h.uC (c := tc_P (!x) + 3 + 2) (i := N 2) (by omega) u1).uC (c := tc_P (!x) + 1) (i := 2) (by omega) (nI (N 2 + 1))).uC (c := tc_P (!x) + 13) (i := N 2) (by omega) u3
    by_cases z8 : M4 0 8 = 0
    · have c7 := r3f.c7 z8
      obtain ⟨z3, m3, e3a, e3b, e3c, e3d⟩ := r3g c7
      have y2 := r2f.c7 z3
      have z2 := r2g y2
      have y1 := r1f.c7 z2
      obtain ⟨z1, nmr⟩ := r1g y1
      have h13 : ∀ a j, a ≠ 13 → am_u2 M4 13 (6 * xb (!x) + N 2) w3 a j = M4 a j := fun a j h => u2_c h
      obtain ⟨MZ, k1, k2, k3, k4, k5⟩ := m_szl (M := am_u2 M4 13 (6 * xb (!x) + N 2) w3) (J := J4) (b := xb (!x)) (s := N 2) hb1 hlt ((h13 0 8 (by omega)).trans z8) ((h13 0 51 (by omega)).trans i51z) ((h13 11 _ (by omega)).trans kcz) (e + 9) 6 0 _ (by omega) ⟨fun _ _ _ => rfl, fun o ho => by omega, fun _ _ _ _ _ _ => rfl, fun _ _ => rfl⟩
      have q8 : MZ 0 8 = 0 := (k2 0 8 (by omega)).trans ((h13 0 8 (by omega)).trans z8)
      have q51 : MZ 0 51 = nI (xb (!x)) := (k2 0 51 (by omega)).trans ((h13 0 51 (by omega)).trans i51z)
      have q11 : MZ 11 (xb (!x)) = nI (N 2) := (k2 11 _ (by omega)).trans ((h13 11 _ (by omega)).trans kcz)
      have hMo : ∀ a j, (a = 0 → j < 3 ∨ 9 < j) → a ≠ 19 → (a = 13 → j ≠ (6 * xb (!x) + N 2)) → MZ a j = M a j := fun a j h0 h1 h2 => by
        rw [k2 a j h1, fr1 (orr h2)]; exact fM a j h0
      have rmZ : RM (!x) M MZ := fun a j t1 t2 t3 => by
        by_cases za : a = 19
        · subst za
          have t2 : ¬ (2 ≤ 19 ∧ 19 ≤ 38 ∧ 36 * xb (!x) ≤ j ∧ j < 36 * xb (!x) + 36) := t2
          rw [k5 j (by omega), u2_c (by omega)]; exact fM _ _ (by omega)
        · rw [k2 a j za]; exact rm13 a j t1 t2 t3
      refine ⟨(am_u2 (am_u2 (am_u2 C4 (tc_P (!x) + 3 + 2) (N 2) u1) (tc_P (!x) + 1) 2 (nI (N 2 + 1))) (tc_P (!x) + 13) (N 2) u3), am_u2 MZ 11 (xb (!x)) (nI (N 2 + 1)), J4, cA c7, mz _ (e74.trans ?_), rc, rmZ.u (c := 11) (i := xb (!x)) (by omega) (by omega) (show 1 * xb (!x) ≤ _ by omega) (show _ < 1 * xb (!x) + 1 by omega) _, rj, p + 1, by omega, ?_, fun _ => ⟨upN N 2, la, lb, ⟨?_, ?_, ?_⟩, by omega, by omega⟩⟩
      · refine k1.trans ?_
        (rw [b189_170, if_pos q8, q51, if_pos hin, if_pos hin]; (try simp only [cb]); rw [q11, nI_1])
      · exact sC ((s13.wr (fun _ _ _ _ => rfl) (fun b _ => k2 0 b (by omega)) (fun b => k2 1 b (by omega)) rfl).uM (c := 11) (by omega) _)
      · refine hP.1.up (by omega) hlt0 (fun i hi => ?_) (fun i hi => ?_)
        · have t0 : C4 (tc_P (!x) + 1) i = C (tc_P (!x) + 1) i := tfC _ _ (by omega)
          by_cases zi : i = 2
          · rw [u2_c (by omega), u2_e rfl zi, if_pos zi]
          · rw [u2_c (by omega), u2_p zi, u2_c (by omega), if_neg zi, t0]
        · have c9 := cq9 hi
          by_cases zi : i = 2
          · subst zi
            rw [if_pos rfl]; exact u2_s
          · have t1 : cqq i ≠ 19 ∧ cqq i ≠ 13 := by
              have := c9.2.1
              simp only [List.mem_cons, List.not_mem_nil, or_false] at this
              omega
            rw [if_neg zi, u2_c (show cqq i ≠ 11 from c9.2.2 2 (by omega) zi)]
            exact hMo _ _ (by have := c9.1; omega) t1.1 (by omega)
      · have hC : ∀ a b, (a = 1 → b < 3) → (a = tc_P (!x) + 5 → b ≠ N 2) → (a = tc_P (!x) + 1 → b ≠ 2) → (a = tc_P (!x) + 13 → b ≠ N 2) → (am_u2 (am_u2 (am_u2 C4 (tc_P (!x) + 3 + 2) (N 2) u1) (tc_P (!x) + 1) 2 (nI (N 2 + 1))) (tc_P (!x) + 13) (N 2) u3) a b = C a b := fun a b q1 q2 q3 q4 => by
          rw [fr1 (orr q4), fr1 (orr q3), fr1 (orr (fun z => q2 (by omega)))]; exact tfC a b q1
        have hM : ∀ a j, (a = 0 → j < 3 ∨ 9 < j) → a ≠ 19 → a ≠ 11 → (a = 13 → j ≠ (6 * xb (!x) + N 2)) → am_u2 MZ 11 (xb (!x)) (nI (N 2 + 1)) a j = M a j := fun a j h0 h1 h2 h3 => by
          rw [u2_c h2]; exact hMo a j h0 h1 h3
        have hJ : ∀ q k, q < 5 → k < N q → J4 (jk q) (kx q * xb (!x) + k) = J (jk q) (kx q * xb (!x) + k) := fun q k hq hk => by
          have key : ¬ (jk q = 12 ∧ kx q * xb (!x) + k = (6 * xb (!x) + N 2)) := by
            rintro ⟨e1, e2⟩
            have e3 := jk_i hq (show 2 < 5 by omega) e1
            subst e3
            have e2 : 6 * xb (!x) + k = 6 * xb (!x) + N 2 := e2
            omega
          exact fJ _ _ (jk_0 hq) key
        obtain ⟨g1, g2, g3, g4, g5, g6, g7, g8, g9, g10⟩ := hP.2.1
        refine PG.up (PG.fr0 (N := N) (la := la) (lb := lb) (C := C) (M := M) (J := J) (N' := N) (la' := la) (lb' := lb) ⟨g1, g2, g3, g4, g5, g6, g7, g8, g9, g10⟩ (fun i hi => rfl) (fun o k h1 h2 h3 hk => hC _ _ (by omega) ?_ (by omega) ?_) (fun a k h1 h2 h3 hk => hM _ _ (by omega) (by omega) ?_ ?_) hJ ?_ ?_ ?_ ?_) (by omega) ?_ (fun z => by omega) (fun z => by omega) ?_ (fun z => by omega) (fun z => by omega)
        · intro z
          have z : o = 5 := by omega
          subst z
          have hk : k < N 2 := hk
          omega
        · intro z
          have z : o = 13 := by omega
          subst z
          have hk : k < N 2 := hk
          omega
        · intro z
          subst z
          exact absurd hk (Nat.not_lt_zero _)
        · intro z
          subst z
          have hk : k < N 2 := hk
          have e1 : sdd 13 = 6 := rfl
          rw [e1]
          omega
        · exact g5.fr (fun s q _ _ => hC _ _ (by omega) (by omega) (by omega) (by omega)) (fun k _ => hM _ _ (by omega) (by omega) (by omega) (by omega)) (fun k _ => hM _ _ (by omega) (by omega) (by omega) (by omega)) (fun k _ => hM _ _ (by omega) (by omega) (by omega) (by omega))
        · refine ⟨fun a c ha hc hh => ?_, fun a c ha hc => ?_⟩
          · rw [hC _ _ (by omega) (by omega) (by omega) (by omega)]; exact g6.1 a c ha hc hh
          · have e19 : am_u2 MZ 11 (xb (!x)) (nI (N 2 + 1)) 19 (6 * (6 * xb (!x) + a) + c) = M 19 (6 * (6 * xb (!x) + a) + c) := by
              rw [u2_c (by omega), k4 a c (by omega) (by omega) (by omega) (by omega), u2_c (by omega)]; exact fM _ _ (by omega)
            obtain ⟨mm, f1, f2, f3, f4⟩ := g6.2 a c ha hc
            refine ⟨mm, e19.trans f1, f2, f3, fun z => ?_⟩
            rw [hC _ _ (by omega) (by omega) (by omega) (by omega)]; exact f4 z
        · exact g9.fr (fun k _ _ => hC _ _ (by omega) (by omega) (by omega) (by omega)) (fun a _ _ => hM _ _ (by omega) (by omega) (by omega) (by omega))
        · exact g10.fr (hC _ _ (by omega) (by omega) (by omega) (by omega)) (fun k _ => hC _ _ (by omega) (by omega) (by omega) (by omega)) (fun k _ => hC _ _ (by omega) (by omega) (by omega) (by omega)) (hM _ _ (by omega) (by omega) (by omega) (by omega)) (fun k _ => hM _ _ (by omega) (by omega) (by omega) (by omega)) (fun k _ => hM _ _ (by omega) (by omega) (by omega) (by omega)) (fun k _ => hM _ _ (by omega) (by omega) (by omega) (by omega)) (fun k _ => hM _ _ (by omega) (by omega) (by omega) (by omega))
        · intro _
          rw [u2_c (by omega), u2_c (by omega), u2_s]
          have e1 : J4 (jk 2) (kx 2 * xb (!x) + N 2) = w1 := by
            show J4 12 (6 * xb (!x) + N 2) = w1
            rw [r3e 12 _ (by omega), r2e 12 _ (by omega), u2_s]
          rw [e1]; exact nmr
        · intro _
          refine ⟨hlt, ⟨m3, ?_, ?_, by omega, by omega⟩, fun o ho => ?_⟩
          · rw [u2_s]; exact e3a
          · rw [u2_c (by omega), k2 13 _ (by omega), u2_s]; exact e3b
          · rw [u2_c (by omega), u2_c (by omega)]; exact k3 o ho
      · rw [u2_c (by omega)]; exact q51
    · have mB : am_G (am_ev (e + 10)) 189 [.ref 0] (M, J, tm_R, tm_S, 77, 21637) = some (none, (am_u2 M4 13 (6 * xb (!x) + N 2) w3, J4, tm_R, tm_S, 77, 21637)) := mz _ (by
        have q8 : ¬ am_u2 M4 13 (6 * xb (!x) + N 2) w3 0 8 = 0 := fun z => z8 ((u2_c (by omega)).symm.trans z)
        rw [e74, b189_77, if_neg (by decide), if_neg q8, b189_170, if_neg q8])
      have n8 : ¬ am_u2 M4 13 (6 * xb (!x) + N 2) w3 0 8 = 0 := fun z => z8 ((u2_c (by omega)).symm.trans z)
      by_cases c7 : C4 1 7 = 0
      · exact ⟨(am_u2 (am_u2 (am_u2 C4 (tc_P (!x) + 3 + 2) (N 2) u1) (tc_P (!x) + 1) 2 (nI (N 2 + 1))) (tc_P (!x) + 13) (N 2) u3), _, J4, cA c7, mB, rc, rm13, rj, p + 1, by omega, sC s13, fun z => absurd z n8⟩
      · exact ⟨C4, _, J4, cc _ (by rw [b87_24, if_neg c7]), mB, tfC.rc, rm13, rj, p + 1, by omega, s13, fun z => absurd z n8⟩
  · obtain ⟨rfl, bd1⟩ := b8 h8
    obtain ⟨D1, u1, t1a, t1b, t1c, t1d⟩ := bd1.nn (Jc := Jc) (x := x) (d + 57)
    obtain ⟨D2, t2a, t2b, t2c, t2d⟩ := t1c.tk (Jc := Jc) (x := x) (c := 3) (by decide) 8 (d + 57)
    obtain ⟨D3, u3, t3a, t3b, t3c, t3d⟩ := t2c.tn (Jc := Jc) (x := x) 1 99 (d + 57)
    have tfD : TF C D3 := (((b3.tr t1b).tr t2b).tr t3b)
    refine ⟨D3, M1, J1, ?_, ?_, tfD.rc, b4.rm, b5.rj, p + 1, by omega, ⟨g.1.1.tf tfD b4, g.1.2.2.2.2.2.fr (fun b => tfD 2 b (fun z => by omega)), Or.inr t3c⟩, fun z => absurd z h8⟩
    · refine (b87_0 _ _ _ _).trans ((congrArg (fun z => am_call z _) b1).trans ?_)
      rw [am_call_s, am_toN, b87_5]
      refine (congrArg (fun z => am_call z _) t1a).trans ?_
      rw [am_call_s, am_toL, b87_9]
      refine (congrArg (fun z => am_call z _) t2a).trans ?_
      rw [am_call_s, am_toN, b87_17]
      refine (congrArg (fun z => am_call z _) t3a).trans ?_
      rw [am_call_s, am_toL, b87_24, if_neg t3d]
    · rw [m0, b189_23, if_pos rfl]
end SIZ
