/-! the statement of a change -/
section CHG
variable {T : Nat → Nat} {n lo p q k v la lb : Nat} {w : List Nat} {x y : Bool} {C M C' M' : tI} {J J' Jc : tJ} {N N' : Nat → Nat}
theorem Bd.askM (h : Bd C M) (a : Int32) (d : Nat) : am_G (am_ev (d + 1)) 186 [.ref 0, .int a] (M, J, tm_R, tm_S, 77, 21637) = some (some (.int 0), (M, J, tm_R, tm_S, 77, 21637)) := by
  obtain ⟨f, p, f0, f5, hp, h8, _⟩ := h
  rw [b186_0, h8, if_neg (nI_nle f0 (by omega))]
theorem Gd.fl3 (g : Gd T n C M J p q k v w) {D : tI} (hD : TF C D) (d7 : D 1 7 = 0) (d : Nat) : am_G (am_ev (d + 1)) 75 [.ref 1, .int 3, .int (C 1 6)] (D, Jc, (tc_R x), tc_S, 289, 11479) = some (none, (Fc D 3 p, Jc, (tc_R x), tc_S, 289, 11479)) ∧ Sy T n lo (Fc D 3 p) (Fmm M 3 p) J := by
  refine ⟨?_, ⟨g.1.1.tf (hD.tr (Fc_f D 3 p)) (Fmm_f M 3 p), g.1.2.2.2.2.2.fr (fun b => (hD.tr (Fc_f D 3 p)) 2 b (fun z => by omega)), Or.inr ⟨3, p, by omega, by omega, g.pn, Fmm_8 M p, ?_, ?_, Or.inl ⟨Fc_7 D p, ?_⟩⟩⟩⟩
  · rw [b75_0, if_pos d7, g.c6]; rfl
  · unfold Fmm; rw [u2_s]
  · unfold Fc; rw [u2_s]
  · unfold Fc; rw [u2_p (by omega), u2_s]
theorem chg2 (h : Sy T n lo C M J) (hN : Nm (!x) C M J) {u1 w1 : Int32} {j1 : Nat} (hu : M 0 8 = 0 → u1 = nI j1 ∧ w1 = nI j1 ∧ j1 < 6) (d e : Nat) : ∃ C' M' J' u2 w2, am_ev (d + 60) 89 11 [.ref 1, am_un, am_un, am_un, am_un] [.int u1] (C, Jc, (tc_R x), tc_S, 289, 11479) = am_ev (d + 60) 89 41 [.ref 1, .int u1, .int (C 1 6), .int u2, am_un] [] (C', Jc, (tc_R x), tc_S, 289, 11479) ∧ am_ev (e + 10) 192 32 [.ref 0, am_un, am_un, am_un] [.int w1] (M, J, tm_R, tm_S, 77, 21637) = am_ev (e + 10) 192 86 [.ref 0, .int w1, am_un, am_un] [.int w2] (M', J', tm_R, tm_S, 77, 21637) ∧ TF C C' ∧ MF M M' ∧ JF J J' ∧ Sy T n lo C' M' J' ∧ (C' 1 7 = 0 → M 0 8 = 0 ∧ ∃ j, u2 = nI j ∧ j < Int32.toNatClampNeg (M 11 (xb (!x))) ∧ j < 6 ∧ j ≠ j1 ∧ (M' 0 8 = 0 → w2 = nI j)) := by
  -- when both ask
  have ask : ∀ {C' M' : tI} {J' : tJ} {u u' : Int32}, am_G (am_ev (d + 56 + 3)) 83 [.ref 1, .int (nI 2)] (C, Jc, (tc_R x), tc_S, 289, 11479) = some (some (.int u), (C', Jc, (tc_R x), tc_S, 289, 11479)) → (C' 1 7 = 0 → u1 ≠ u) → am_ev (d + 60) 89 11 [.ref 1, am_un, am_un, am_un, am_un] [.int u1] (C, Jc, (tc_R x), tc_S, 289, 11479) = am_ev (d + 60) 89 41 [.ref 1, .int u1, .int (C 1 6), .int u, am_un] [] (C', Jc, (tc_R x), tc_S, 289, 11479) := by
    intro C' M' J' u u' a1 hne
    rw [b89_11]
    refine (congrArg (fun z => am_call z _) a1).trans ?_
    rw [am_call_s, am_toL, b89_22]
    by_cases z : C' 1 7 = 0
    · rw [if_pos z, if_neg (hne z)]
    · rw [if_neg z]
  rcases h.2.2 with ⟨p, q, k, v, w, g, hlo⟩ | g
  · obtain ⟨hu1, hw1, hj6⟩ := hu g.m8
    by_cases hk : k = 2
    · obtain ⟨t1, t2, t3, t4⟩ := g.t2 hk
      obtain ⟨C', M', J', u, u', a1, a2, a3, a4, a5, a6, a7, a8, a9, a10⟩ := g.askN (Jc := Jc) (x := x) hN (kd := 2) (by omega) hk (d + 56) (e + 6)
      have m68 : am_ev (e + 10) 192 32 [.ref 0, am_un, am_un, am_un] [.int w1] (M, J, tm_R, tm_S, 77, 21637) = am_ev (e + 10) 192 68 [.ref 0, .int w1, am_un, am_un] [.int (oI (nf (!x) C 2 w))] (M, J, tm_R, tm_S, 77, 21637) := by
        rw [b192_32, if_pos g.m8, if_pos ((g.me (c := 1) (j := 1) rfl (by omega)).mpr (mkk_1.mpr (Or.inl hk))), t2, m_own0 _ _ _ t3 t4, am_call_s, am_toL, b192_56, if_pos rfl, t2]
        refine (congrArg (fun z => am_call z _) (hN.m (q := 2) (by omega) t3 (e + 7))).trans ?_
        rw [am_call_s, am_toL]
      by_cases he : nf (!x) C 2 w = some j1
      · have c7 := a10 j1 he
        have eu : u1 = u := by rw [a7, he, hu1]; rfl
        obtain ⟨f1, f2⟩ := g.fl3 (lo := lo) (Jc := Jc) (x := x) a3 c7 (d + 58)
        refine ⟨Fc C' 3 p, Fmm M 3 p, J, u, 0, ?_, ?_, a3.tr (Fc_f C' 3 p), Fmm_f M 3 p, JF.rf J, f2, fun z => absurd z (by rw [Fc_7]; decide)⟩
        · rw [b89_11]
          refine (congrArg (fun z => am_call z _) a1).trans ?_
          rw [am_call_s, am_toL, b89_22, if_pos c7, if_pos eu]
          refine (congrArg (fun z => am_call z _) f1).trans ?_
          rw [am_call_s, am_toN]
        · have m1 := g.failM (e + 8) 3
          have ew : oI (nf (!x) C 2 w) = w1 := by rw [he, hw1]; rfl
          rw [m68, b192_68, if_pos ew]
          refine (congrArg (fun z => am_call z _) m1).trans ?_
          have bd : Bd (Fc C' 3 p) (Fmm M 3 p) := f2.bdd (by rw [Fmm_8]; decide)
          rw [am_call_s, am_toN, b192_81, bd.askM, am_call_s, am_toL]
      · have hne : ¬ oI (nf (!x) C 2 w) = nI j1 := by
          cases hf : nf (!x) C 2 w with
          | none => exact fun z => nI_ne (by omega) z.symm
          | some j =>
            have := (hN.lt (q := 2) (by omega) hf).2
            have : j < 6 := this
            exact fun z => he (by rw [hf, (nI_eq (by omega) (by omega)).mp z])
        refine ⟨C', M', J', u, u', ask (M' := M') (J' := J') (u' := u') a1 (fun _ => by rw [hu1, a7]; exact fun z => hne z.symm), ?_, a3, a4, a5, a6.mono (by omega), fun h7 => ⟨g.m8, ?_⟩⟩
        · rw [m68, b192_68, if_neg (by rw [hw1]; exact hne), b192_81]
          refine (congrArg (fun z => am_call z _) a2).trans ?_
          rw [am_call_s, am_toL]
        · cases hf : nf (!x) C 2 w with
          | none => exact absurd h7 (a8 hf)
          | some j =>
            have hl := hN.lt (q := 2) (by omega) hf
            rw [hf] at a7 a9
            exact ⟨j, a7, hl.1, hl.2, fun z => he (by rw [hf, z]), a9⟩
    · obtain ⟨C', M', J', u, u', a1, a2, a3, a4, a5, a6, a7⟩ := h.asked (Jc := Jc) (x := x) hN (kd := 2) (by omega) (d + 56) (e + 6)
      have m81 : am_ev (e + 10) 192 32 [.ref 0, am_un, am_un, am_un] [.int w1] (M, J, tm_R, tm_S, 77, 21637) = am_ev (e + 10) 192 81 [.ref 0, .int w1, am_un, am_un] [] (M, J, tm_R, tm_S, 77, 21637) := by
        rw [b192_32, if_pos g.m8]
        by_cases z3 : k = 3
        · obtain ⟨t1, t2, t3⟩ := g.t3 z3
          rw [if_pos ((g.me (c := 1) (j := 1) rfl (by omega)).mpr (mkk_1.mpr (Or.inr z3))), t3, m_own1 _ _ _ t1, am_call_s, am_toL, b192_56, if_neg (by decide : ¬ (1 : Int32) = 0)]
        · rw [if_neg (fun y => by have := mkk_1.mp ((g.me (c := 1) (j := 1) rfl (by omega)).mp y); omega)]
      have c7n : ¬ C' 1 7 = 0 := by
        have c1 := g.failC (Jc := Jc) (x := x) (d + 57) 1
        have e1 : am_G (am_ev (d + 56 + 3)) 83 [.ref 1, .int (nI 2)] (C, Jc, (tc_R x), tc_S, 289, 11479) = some (some (.int (-1)), (Fc C 1 p, Jc, (tc_R x), tc_S, 289, 11479)) := by
          rw [b83_0, if_neg (fun y => hk ((g.ke (c := 2) (j := 2) rfl (by omega)).mp y))]
          refine (congrArg (fun z => am_call z _) c1).trans ?_
          rw [am_call_s, am_toN, b83_17]
        have e2 := e1.symm.trans a1
        have e3 : Fc C 1 p = C' := by
          injection e2 with e2
          injection e2 with _ e2
          injection e2
        rw [← e3, Fc_7]; decide
      refine ⟨C', M', J', u, u', ask (M' := M') (J' := J') (u' := u') a1 (fun z => absurd z c7n), ?_, a3, a4, a5, a6, fun z => absurd z c7n⟩
      rw [m81, b192_81]
      refine (congrArg (fun z => am_call z _) a2).trans ?_
      rw [am_call_s, am_toL]
  · obtain ⟨f, p, f0, f5, hp, h8, _⟩ := id g
    obtain ⟨C', u, a1, a2, a3, a4⟩ := g.tt (Jc := Jc) (x := x) 2 (d + 57)
    refine ⟨C', M, J, u, 0, ask (M' := M) (J' := J) (u' := 0) a1 (fun z => absurd z a4), ?_, a2, MF.rf M, JF.rf J, h.bd a2 a3, fun z => absurd z a4⟩
    rw [b192_32, if_neg g.m8, b192_81, g.askM, am_call_s, am_toL]
theorem gNd.cg (h : gNd y N C M) (h1 : N' 1 = N 1) (h2 : N' 2 = N 2) (h7 : N' 7 = N 7) : gNd y N' C M := by
  unfold gNd at h ⊢
  rw [h1, h2, h7]; exact h
theorem gCh.cg (h : gCh y N C M) (h2 : N' 2 = N 2) : gCh y N' C M := by
  unfold gCh at h ⊢
  rw [h2]; exact h
theorem gLw.cg (h : gLw y N la lb C M) (h6 : N' 6 = N 6) : gLw y N' la lb C M := by
  unfold gLw at h ⊢
  rw [h6]; exact h
theorem st_change (g : Gd T n C M J p q k v w) (hk : k = 3) (hP : PL x N la lb C M J) (hla : la ≤ p) (hlb : lb ≤ p) (d e : Nat) : Stm x T n 89 192 p C M J Jc d e := by
  have hb1 := xb1 (!x)
  have hy := tc_P4 (!x)
  have nk : N 8 ≤ 30 := (hP.1 8 (by omega)).2.2
  have n2 : N 2 ≤ 6 := (hP.1 2 (by omega)).2.2
  have i51 : M 0 51 = nI (xb (!x)) := hP.2.2
  have hin : am_in (nI (xb (!x))) 2 := nI_in (by omega) (by omega)
  have cb : Int32.toNatClampNeg (nI (xb (!x))) = xb (!x) := nI_clamp (by omega)
  have kc1 : M 18 (xb (!x)) = nI (N 8) := (hP.1 8 (by omega)).2.1
  obtain ⟨C1, M1, J1, s, b1, b2, b3, b4, b5, b6, b7, b8⟩ := g.beg (Jc := Jc) hk hP (kd := 8) (by omega) (d + 56) (e + 6)
  have m0 : am_G (am_ev (e + 10)) 192 [.ref 0] (M, J, tm_R, tm_S, 77, 21637) = am_ev (e + 10) 192 23 [.ref 0, am_un, am_un, am_un] [.int s] (M1, J1, tm_R, tm_S, 77, 21637) := by
    (rw [b192_0, i51, if_pos hin]; (try simp only [cb]); rw [kc1])
    rcases b2 with ⟨z, b2⟩ | ⟨z, b2⟩
    · have z : N 8 = 30 := z
      rw [if_pos (by rw [z]; rfl), b2, am_call_s, am_toL]
    · have z : N 8 < 30 := z
      rw [if_neg (neR (c := 30) 30 rfl (by omega) (by omega) (by omega)), b2, am_call_s, am_toL]
  by_cases h8 : M1 0 8 = 0
  · obtain ⟨rfl, hlt0⟩ := b7 h8
    have nm0 : Nm (!x) C1 M1 J1 := hP.nm.tf b3 b4 b5
    obtain ⟨C2, M2, J2, u1, w1, r1a, r1b, r1c, r1d, r1e, r1f, r1g⟩ := Sy.asked (Jc := Jc) (x := x) b6 nm0 (kd := 2) (by omega) (d + 56) (e + 6)
    have nm1 := nm0.tf r1c r1d r1e
    have hj : ∃ j1, M2 0 8 = 0 → u1 = nI j1 ∧ w1 = nI j1 ∧ j1 < 6 := by
      by_cases z : M2 0 8 = 0
      · obtain ⟨_, j, e1, e2, e3, e4⟩ := r1g (r1f.c7 z)
        exact ⟨j, fun _ => ⟨e1, e4 z, e3⟩⟩
      · exact ⟨0, fun y => absurd y z⟩
    obtain ⟨j1, hj⟩ := hj
    obtain ⟨C3, M3, J3, u2, w2, r2a, r2b, r2c, r2d, r2e, r2f, r2g⟩ := chg2 (Jc := Jc) (x := x) r1f nm1 hj d e
    obtain ⟨C4, M4, J4, u3, w3, r3a, r3b, r3c, r3d, r3e, r3f, r3g⟩ := Sy.num (Jc := Jc) (x := x) r2f (a := 0) (a' := 0) (b := 99) (l0 := 0) (hi := 99) rfl (by omega) (fun _ => ⟨rfl, rfl, by omega⟩) (d + 56) (e + 6)
    have tfC : TF C C4 := b3.tr (r1c.tr (r2c.tr r3c))
    have mfM : MF M M4 := b4.tr (r1d.tr (r2d.tr r3d))
    have jfJ : JF J J4 := b5.tr (r1e.tr (r2e.tr r3e))
    have i51z : M4 0 51 = nI (xb (!x)) := (mfM 0 51 (by omega)).trans i51
    have kcz : M4 18 (xb (!x)) = nI (N 8) := (mfM 18 _ (by omega)).trans kc1
    have cN : C (tc_P (!x) + 1) 8 = nI (N 8) := (hP.1 8 (by omega)).1
    have cc : ∀ Z, am_ev (d + 60) 89 48 [.ref 1, .int u1, .int (C2 1 6), .int u2, am_un] [.int u3] (C4, Jc, (tc_R x), tc_S, 289, 11479) = Z → am_G (am_ev (d + 60)) 89 [.ref 1] (C, Jc, (tc_R x), tc_S, 289, 11479) = Z := by
      intro Z hZ
      refine (b89_0 _ _ _ _).trans ((congrArg (fun z => am_call z _) b1).trans ?_)
      rw [am_call_s, am_toN, b89_6]
      refine (congrArg (fun z => am_call z _) r1a).trans ?_
      rw [am_call_s, am_toL]
      refine r2a.trans ?_
      rw [b89_41]
      refine (congrArg (fun z => am_call z _) r3a).trans ?_
      rw [am_call_s, am_toL]
      exact hZ
    have mz : ∀ Z, am_ev (e + 10) 192 94 [.ref 0, .int w1, .int w2, am_un] [.int w3] (M4, J4, tm_R, tm_S, 77, 21637) = Z → am_G (am_ev (e + 10)) 192 [.ref 0] (M, J, tm_R, tm_S, 77, 21637) = Z := by
      intro Z hZ
      rw [m0, b192_23, if_neg (by decide : ¬ (1 : Int32) = 0)]
      refine (congrArg (fun z => am_call z _) r1b).trans ?_
      rw [am_call_s, am_toL]
      refine r2b.trans ?_
      rw [b192_86]
      refine (congrArg (fun z => am_call z _) r3b).trans ?_
      rw [am_call_s, am_toL]
      exact hZ
    -- what is known when the class is not at fault
    have kn : C4 1 7 = 0 → ∃ j2 m, u1 = nI j1 ∧ w1 = nI j1 ∧ j1 < N 2 ∧ u2 = nI j2 ∧ j2 < N 2 ∧ j2 ≠ j1 ∧ w2 = nI j2 ∧ u3 = nI m ∧ w3 = nI m ∧ m ≤ 99 := by
      intro y3
      obtain ⟨z3, m, e3a, e3b, e3c, e3d⟩ := r3g y3
      have y2 := r2f.c7 z3
      obtain ⟨z2, j2, e2a, e2b, e2c, e2d, e2e⟩ := r2g y2
      have y1 := r1f.c7 z2
      obtain ⟨z1, j, e1a, e1b, e1c, e1d⟩ := r1g y1
      obtain ⟨h1, h2, h3⟩ := hj z2
      have ej : j = j1 := (nI_eq (by have : j < 6 := e1c; omega) (by omega)).mp (e1a.symm.trans h1)
      have k11 : M 11 (xb (!x)) = nI (N 2) := (hP.1 2 (by omega)).2.1
      have c1 : Int32.toNatClampNeg (M1 11 (xb (!x))) = N 2 := by rw [b4 11 _ (by omega), k11]; exact nI_clamp (by omega)
      have c2 : Int32.toNatClampNeg (M2 11 (xb (!x))) = N 2 := by rw [r1d 11 _ (by omega)]; exact c1
      have e1b : j < Int32.toNatClampNeg (M1 11 (xb (!x))) := e1b
      exact ⟨j2, m, h1, h2, by omega, e2a, by omega, e2d, e2e z3, e3a, e3b, by omega⟩
    by_cases c7 : C4 1 7 = 0
    · obtain ⟨j2, m, rfl, rfl, l1, rfl, l2, l3, rfl, rfl, rfl, l4⟩ := kn c7
      have ck : Int32.toNatClampNeg (nI j1) = j1 := nI_clamp (by omega)
      have cm : Int32.toNatClampNeg (nI j2) = j2 := nI_clamp (by omega)
      have c8 : Int32.toNatClampNeg (8 : Int32) = 8 := by decide +kernel
      have i9 : am_in (8 : Int32) 9 := by decide +kernel
      have hts := ts_ch (!x) j1 (by omega)
      have hkk : (tc_S (tc_P (!x) + 22 + j1)).1 = 20 ∧ tc_P (!x) + 22 + j1 < 289 := ⟨by rw [hts], by omega⟩
      have e1 : am_u2 C4 (tc_P (!x) + 22 + j1) j2 (nI m) (tc_P (!x) + 1) 8 = nI (N 8) := by rw [u2_c (by omega), tfC _ _ (by omega)]; exact cN
      have cA : am_G (am_ev (d + 60)) 89 [.ref 1] (C, Jc, (tc_R x), tc_S, 289, 11479) = some (none, (am_u2 (am_u2 C4 (tc_P (!x) + 22 + j1) j2 (nI m)) (tc_P (!x) + 1) 8 (nI (N 8 + 1)), Jc, (tc_R x), tc_S, 289, 11479)) := cc _ (by
        rw [b89_48, if_pos c7, if_pos (nI_in (by omega) (by omega))]
        (simp only [ck, cm, c8])
        rw [if_pos hkk, hts, if_pos (nI_in (by omega) (by omega)), if_pos i9, if_pos i9, e1, nI_1])
      have rc : RC (!x) C (am_u2 (am_u2 C4 (tc_P (!x) + 22 + j1) j2 (nI m)) (tc_P (!x) + 1) 8 (nI (N 8 + 1))) := ((tfC.rc (y := !x)).vv (c := tc_P (!x) + 22 + j1) (by omega) _).vv (c := tc_P (!x) + 1) (by omega) _
      have sC : Sy T n (p + 1) (am_u2 (am_u2 C4 (tc_P (!x) + 22 + j1) j2 (nI m)) (tc_P (!x) + 1) 8 (nI (N 8 + 1))) M4 J4 := (r3f.uC (by omega) _).uC (by omega) _
      by_cases z8 : M4 0 8 = 0
      · have ix : (6 : Int32) * ((6 : Int32) * nI (xb (!x)) + nI j1) + nI j2 = nI (6 * (6 * xb (!x) + j1) + j2) := by
          rw [show (6 : Int32) * nI (xb (!x)) + nI j1 = nI (6 * xb (!x) + j1) from nI_ix 6 _ _]
          exact nI_ix 6 _ _
        have ct : Int32.toNatClampNeg (nI (6 * (6 * xb (!x) + j1) + j2)) = 6 * (6 * xb (!x) + j1) + j2 := nI_clamp (by omega)
        refine ⟨_, am_u2 (am_u2 M4 19 (6 * (6 * xb (!x) + j1) + j2) (nI m)) 18 (xb (!x)) (nI (N 8 + 1)), J4, cA, mz _ ?_, rc, ((mfM.rm (y := !x)).u (c := 19) (by omega) (by omega) (show 36 * xb (!x) ≤ _ by omega) (show _ < 36 * xb (!x) + 36 by omega) _).u (c := 18) (by omega) (by omega) (show 1 * xb (!x) ≤ _ by omega) (show _ < 1 * xb (!x) + 1 by omega) _, jfJ.rj, p + 1, by omega, (sC.uM (by omega) _).uM (by omega) _, fun _ => ⟨upN N 8, la, lb, ⟨?_, ?_, ?_⟩, by omega, by omega⟩⟩
        · have z0 : M4 0 8 ≤ 0 := by rw [z8]; decide
          (rw [b192_94, if_pos z0, i51z, ix, if_pos (nI_in (by omega) (by omega)), if_pos hin, if_pos hin]; (try simp only [ct]); (try simp only [cb]); rw [kcz, nI_1])
        · refine hP.1.up (by omega) hlt0 (fun i hi => ?_) (fun i hi => ?_)
          · have t0 : C4 (tc_P (!x) + 1) i = C (tc_P (!x) + 1) i := tfC _ _ (by omega)
            by_cases zi : i = 8
            · rw [u2_e rfl zi, if_pos zi]
            · rw [u2_p zi, u2_c (by omega), if_neg zi, t0]
          · have c9 := cq9 hi
            by_cases zi : i = 8
            · subst zi
              rw [if_pos rfl]; exact u2_s
            · have t1 : cqq i ≠ 19 := by
                have := c9.2.1
                simp only [List.mem_cons, List.not_mem_nil, or_false] at this
                omega
              rw [if_neg zi, u2_c (show cqq i ≠ 18 from c9.2.2 8 (by omega) zi), u2_c t1]
              exact mfM _ _ (by have := c9.1; omega)
        · have u7 : upN N 8 7 = N 7 := upN_o N (by omega)
          have u1' : upN N 8 1 = N 1 := upN_o N (by omega)
          have u2' : upN N 8 2 = N 2 := upN_o N (by omega)
          have u6 : upN N 8 6 = N 6 := upN_o N (by omega)
          have hC : ∀ a b, (a = 1 → b < 3) → (a = tc_P (!x) + 22 + j1 → b ≠ j2) → (a = tc_P (!x) + 1 → b ≠ 8) → am_u2 (am_u2 C4 (tc_P (!x) + 22 + j1) j2 (nI m)) (tc_P (!x) + 1) 8 (nI (N 8 + 1)) a b = C a b := fun a b q1 q2 q3 => by
            rw [fr1 (orr q3), fr1 (orr q2)]; exact tfC a b q1
          have hM : ∀ a j, (a = 0 → j < 3 ∨ 9 < j) → (a = 19 → j ≠ 6 * (6 * xb (!x) + j1) + j2) → a ≠ 18 → am_u2 (am_u2 M4 19 (6 * (6 * xb (!x) + j1) + j2) (nI m)) 18 (xb (!x)) (nI (N 8 + 1)) a j = M a j := fun a j q1 q2 q3 => by
            rw [u2_c q3, fr1 (orr q2)]; exact mfM a j q1
          obtain ⟨g1, g2, g3, g4, g5, g6, g7, g8, g9, g10⟩ := hP.2.1
          refine PG.fr0 (N := N) (la := la) (lb := lb) (C := C) (M := M) (J := J) ⟨g1, g2, g3, g4, g5, g6, g7, g8, g9, g10⟩ (fun i hi => upN_o N (by omega)) (fun o k h1 h2 h3 _ => hC _ _ (by omega) (by omega) (by omega)) (fun a k h1 h2 h3 _ => hM _ _ (by omega) (by omega) (by omega)) (fun q k hq _ => jfJ _ _ (jk_0 hq)) ?_ ?_ ?_ ?_
          · refine (g5.fr (fun s q hs hq => hC _ _ (by omega) (by omega) (by omega)) (fun k _ => hM _ _ (by omega) (by omega) (by omega)) (fun k _ => hM _ _ (by omega) (by omega) (by omega)) (fun k _ => hM _ _ (by omega) (by omega) (by omega))).cg u1' u2' u7
          · refine gCh.cg (N := N) ⟨fun a c ha hc hh => ?_, fun a c ha hc => ?_⟩ u2'
            · rw [hC _ _ (by omega) (by omega) (by omega)]; exact g6.1 a c ha hc hh
            · by_cases zz : a = j1 ∧ c = j2
              · obtain ⟨rfl, rfl⟩ := zz
                refine ⟨m, ?_, l4, fun z => absurd z.symm l3, fun _ => ?_⟩
                · rw [u2_c (by omega), u2_s]
                · rw [u2_c (by omega), u2_s]
              · rw [hM _ _ (by omega) (by omega) (by omega), hC _ _ (by omega) (by omega) (by omega)]; exact g6.2 a c ha hc
          · exact g9.fr (fun k _ _ => hC _ _ (by omega) (by omega) (by omega)) (fun a _ _ => hM _ _ (by omega) (by omega) (by omega))
          · exact (g10.fr (hC _ _ (by omega) (by omega) (by omega)) (fun k _ => hC _ _ (by omega) (by omega) (by omega)) (fun k _ => hC _ _ (by omega) (by omega) (by omega)) (hM _ _ (by omega) (by omega) (by omega)) (fun k _ => hM _ _ (by omega) (by omega) (by omega)) (fun k _ => hM _ _ (by omega) (by omega) (by omega)) (fun k _ => hM _ _ (by omega) (by omega) (by omega)) (fun k _ => hM _ _ (by omega) (by omega) (by omega))).cg u6
        · rw [u2_c (by omega), u2_c (by omega)]; exact i51z
      · obtain ⟨f, p0, f0, f5, _, h80, _⟩ := r3f.bdd z8
        refine ⟨_, M4, J4, cA, mz _ ?_, rc, mfM.rm, jfJ.rj, p + 1, by omega, sC, fun z => absurd z z8⟩
        rw [b192_94, h80, if_neg (nI_nle f0 (by omega))]
    · have z8 : ¬ M4 0 8 = 0 := fun z => c7 (r3f.c7 z)
      obtain ⟨f, p0, f0, f5, _, h80, _⟩ := r3f.bdd z8
      refine ⟨C4, M4, J4, cc _ (by rw [b89_48, if_neg c7]), mz _ ?_, tfC.rc, mfM.rm, jfJ.rj, p + 1, by omega, r3f, fun z => absurd z z8⟩
      rw [b192_94, h80, if_neg (nI_nle f0 (by omega))]
  · obtain ⟨rfl, bd1⟩ := b8 h8
    obtain ⟨D1, u1, t1a, t1b, t1c, t1d⟩ := bd1.tt (Jc := Jc) (x := x) 2 (d + 57)
    obtain ⟨D2, u2, t2a, t2b, t2c, t2d⟩ := t1c.tt (Jc := Jc) (x := x) 2 (d + 57)
    obtain ⟨D3, u3, t3a, t3b, t3c, t3d⟩ := t2c.tn (Jc := Jc) (x := x) 0 99 (d + 57)
    have tfD : TF C D3 := b3.tr (t1b.tr (t2b.tr t3b))
    refine ⟨D3, M1, J1, ?_, ?_, tfD.rc, b4.rm, b5.rj, p + 1, by omega, ⟨g.1.1.tf tfD b4, g.1.2.2.2.2.2.fr (fun b => tfD 2 b (fun z => by omega)), Or.inr t3c⟩, fun z => absurd z h8⟩
    · refine (b89_0 _ _ _ _).trans ((congrArg (fun z => am_call z _) b1).trans ?_)
      rw [am_call_s, am_toN, b89_6]
      refine (congrArg (fun z => am_call z _) t1a).trans ?_
      rw [am_call_s, am_toL, b89_11]
      refine (congrArg (fun z => am_call z _) t2a).trans ?_
      rw [am_call_s, am_toL, b89_22, if_neg t2d, b89_41]
      refine (congrArg (fun z => am_call z _) t3a).trans ?_
      rw [am_call_s, am_toL, b89_48, if_neg t3d]
    · rw [m0, b192_23, if_pos rfl]
end CHG
