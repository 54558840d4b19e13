/-! the statement of a need -/
section NED
variable {T : Nat → Nat} {n lo p q k v la lb : Nat} {w : List Nat} {x y : Bool} {C M C' M' : tI} {J J' Jc : tJ} {N N' : Nat → Nat}
theorem gNd.chk (h : gNd y N C M) {s q : Nat} (hs : s < 6) (hq : q < 8) : (ndF M (xb y) s q (N 7) = none ∧ C (tc_P y + 15 + s) q = 0) ∨ ∃ k m, ndF M (xb y) s q (N 7) = some k ∧ k < N 7 ∧ 1 ≤ m ∧ m ≤ 9 ∧ C (tc_P y + 15 + s) q = nI m := by
  obtain ⟨d1, d2, d3⟩ := h
  rw [d1 s q hs hq]
  unfold ndF
  cases hf : fnd (fun k => decide (M 15 (24 * xb y + k) = nI s ∧ M 17 (24 * xb y + k) = nI q)) (N 7) 0 with
  | none =>
    refine Or.inl ⟨rfl, ndS_0 _ (fun k hk => ?_)⟩
    have r := fnd_none _ _ hf k (by omega) (by omega)
    rw [decide_eq_false_iff_not] at r; exact r
  | some j =>
    obtain ⟨_, q2, q3, q4⟩ := fnd_some _ _ _ hf
    have q3 := of_decide_eq_true q3
    obtain ⟨s', q', m, a1, a2, a3, a4, a5, a6, a7⟩ := d2 j (by omega)
    refine Or.inr ⟨j, m, rfl, by omega, a6, a7, ?_⟩
    rw [ndS_1 _ (show j < N 7 by omega) q3 (fun k hk hkj w => ?_), a3]
    rcases Nat.lt_or_gt_of_ne hkj with z | z
    · have r := q4 k (by omega) z
      rw [decide_eq_false_iff_not] at r; exact r w
    · exact d3 j k z hk ⟨q3.1.trans w.1.symm, q3.2.trans w.2.symm⟩
theorem nds2 (h : Sy T n lo C M J) (hN : Nm (!x) C M J) (hd : gNd (!x) N C M) (k14 : M 14 (xb (!x)) = nI (N 7)) (hI : N 7 < 24) {u1 u2 : Int32} {j1 : Nat} (hu : M 0 8 = 0 → u1 = nI j1 ∧ M 15 (24 * xb (!x) + N 7) = nI j1 ∧ j1 < 6) (d e : Nat) : ∃ C' M' J' u3 w3 v3, am_ev (d + 60) 88 19 [.ref 1, .int u1, am_un, am_un, am_un] [.int u2] (C, Jc, (tc_R x), tc_S, 289, 11479) = am_ev (d + 60) 88 60 [.ref 1, .int u1, .int u2, .int (C 1 6), .int u3] [] (C', Jc, (tc_R x), tc_S, 289, 11479) ∧ (if M 0 8 = 0 then (if M 0 3 = 1 then am_call (am_G (am_ev (e + 9)) 168 [.ref 0, .long (J 0 7)] (M, J, tm_R, tm_S, 77, 21637)) (fun r M => am_ev (e + 9 + 1) 191 92 [.ref 0, .int (nI (24 * xb (!x) + N 7)), am_un] (r.toList ++ []) M) else am_ev (e + 9 + 1) 191 107 [.ref 0, .int (nI (24 * xb (!x) + N 7)), am_un] [] (M, J, tm_R, tm_S, 77, 21637)) else am_ev (e + 9 + 1) 191 107 [.ref 0, .int (nI (24 * xb (!x) + N 7)), am_un] [] (M, J, tm_R, tm_S, 77, 21637)) = am_ev (e + 9 + 1) 191 152 [.ref 0, .int (nI (24 * xb (!x) + N 7)), v3] [.int w3, .int (nI (24 * xb (!x) + N 7)), .ref 17] (M', J', tm_R, tm_S, 77, 21637) ∧ TF C C' ∧ MF M M' ∧ JF J J' ∧ Sy T n lo C' M' J' ∧ (C' 1 7 = 0 → M 0 8 = 0 ∧ ∃ j, u3 = nI j ∧ j < Int32.toNatClampNeg (M 6 (xb (!x))) ∧ j < 8 ∧ ndF M (xb (!x)) j1 j (N 7) = none ∧ (M' 0 8 = 0 → w3 = nI j)) := by
  have hb1 := xb1 (!x)
  have hy := tc_P4 (!x)
  have i51 := hN.2.2
  have ct : Int32.toNatClampNeg (nI (24 * xb (!x) + N 7)) = 24 * xb (!x) + N 7 := nI_clamp (by omega)
  have ii : am_in (nI (24 * xb (!x) + N 7)) 48 := nI_in (by omega) (by omega)
  -- when the class is at fault behind the name
  have ask : ∀ {C' : tI} {u : Int32}, am_G (am_ev (d + 56 + 3)) 83 [.ref 1, .int (nI 1)] (C, Jc, (tc_R x), tc_S, 289, 11479) = some (some (.int u), (C', Jc, (tc_R x), tc_S, 289, 11479)) → ¬ C' 1 7 = 0 → am_ev (d + 60) 88 19 [.ref 1, .int u1, am_un, am_un, am_un] [.int u2] (C, Jc, (tc_R x), tc_S, 289, 11479) = am_ev (d + 60) 88 60 [.ref 1, .int u1, .int u2, .int (C 1 6), .int u] [] (C', Jc, (tc_R x), tc_S, 289, 11479) := by
    intro C' u a1 hne
    rw [b88_19]
    refine (congrArg (fun z => am_call z _) a1).trans ?_
    rw [am_call_s, am_toL, b88_30, if_neg hne]
  rcases h.2.2 with ⟨p, q, k, v, w, g, hlo⟩ | g
  · obtain ⟨hu1, hM15, hj6⟩ := hu g.m8
    rw [if_pos g.m8]
    by_cases hk : k = 2
    · obtain ⟨t1, t2, t3, t4⟩ := g.t2 hk
      obtain ⟨C', M', J', u, u', a1, a2, a3, a4, a5, a6, a7, a8, a9, a10⟩ := g.askN (Jc := Jc) (x := x) hN (kd := 1) (by omega) hk (d + 56) (e + 6)
      have m108 : (if M 0 3 = 1 then am_call (am_G (am_ev (e + 9)) 168 [.ref 0, .long (J 0 7)] (M, J, tm_R, tm_S, 77, 21637)) (fun r M => am_ev (e + 9 + 1) 191 92 [.ref 0, .int (nI (24 * xb (!x) + N 7)), am_un] (r.toList ++ []) M) else am_ev (e + 9 + 1) 191 107 [.ref 0, .int (nI (24 * xb (!x) + N 7)), am_un] [] (M, J, tm_R, tm_S, 77, 21637)) = am_ev (e + 9 + 1) 191 108 [.ref 0, .int (nI (24 * xb (!x) + N 7)), am_un] [.int (oI (nf (!x) C 1 w))] (M, J, tm_R, tm_S, 77, 21637) := by
        rw [if_pos ((g.me (c := 1) (j := 1) rfl (by omega)).mpr (mkk_1.mpr (Or.inl hk))), t2, m_own0 _ _ _ t3 t4, am_call_s, am_toL, b191_92, if_pos rfl, t2]
        refine (congrArg (fun z => am_call z _) (hN.m (q := 1) (by omega) t3 (e + 7))).trans ?_
        rw [am_call_s, am_toL, b191_104]
      rw [m108]
      cases hf : nf (!x) C 1 w with
      | none =>
        have c7n := a8 hf
        refine ⟨C', M', J', u, u', .int (-1), ask a1 c7n, ?_, a3, a4, a5, a6.mono (by omega), fun z => absurd z c7n⟩
        rw [show oI none = -1 from rfl, b191_108, if_pos rfl, b191_142]
        refine (congrArg (fun z => am_call z _) a2).trans ?_
        rw [am_call_s, am_toL]
      | some j =>
        have hl := hN.lt (q := 1) (by omega) hf
        have hj8 : j < 8 := hl.2
        have c7 := a10 j hf
        rw [hf] at a7 a9
        have a7 : u = nI j := a7
        have ck : Int32.toNatClampNeg (nI j1) = j1 := nI_clamp (by omega)
        have cm : Int32.toNatClampNeg (nI j) = j := nI_clamp (by omega)
        have hts := ts_nd (!x) j1 hj6
        have hkk : (tc_S (tc_P (!x) + 15 + j1)).1 = 20 ∧ tc_P (!x) + 15 + j1 < 289 := ⟨by rw [hts], by omega⟩
        have m129 : am_ev (e + 9 + 1) 191 108 [.ref 0, .int (nI (24 * xb (!x) + N 7)), am_un] [.int (oI (some j))] (M, J, tm_R, tm_S, 77, 21637) = am_ev (e + 9 + 1) 191 129 [.ref 0, .int (nI (24 * xb (!x) + N 7)), .int (nI j)] [.int (match ndF M (xb (!x)) j1 j (N 7) with
            | some k => nI (24 * xb (!x) + k)
            | none => -1)] (M, J, tm_R, tm_S, 77, 21637) := by
          (rw [show oI (some j) = nI j from rfl, b191_108, if_neg (nI_ne (by omega)), if_pos ii]; (try simp only [ct]); rw [hM15, i51, m_needOf _ _ _ hb1 k14 (by omega), am_call_s, am_toL])
          cases ndF M (xb (!x)) j1 j (N 7) <;> rfl
        rw [m129]
        rcases hd.chk hj6 hj8 with ⟨f1, f2⟩ | ⟨kk, m, f1, f2, f3, f4, f5⟩
        · refine ⟨C', M', J', u, u', .int (nI j), ?_, ?_, a3, a4, a5, a6.mono (by omega), fun h7 => ⟨g.m8, j, a7, hl.1, hj8, f1, a9⟩⟩
          · rw [b88_19]
            refine (congrArg (fun z => am_call z _) a1).trans ?_
            rw [am_call_s, am_toL, b88_30, if_pos c7, hu1, a7, if_pos (nI_in (by omega) (by omega))]
            (simp only [ck, cm])
            rw [if_pos hkk, hts, if_pos (nI_in (by omega) (by omega)), a3 _ _ (by omega), f2, if_pos (by decide)]
          · rw [f1]
            show am_ev (e + 9 + 1) 191 129 [.ref 0, .int (nI (24 * xb (!x) + N 7)), .int (nI j)] [.int (-1)] (M, J, tm_R, tm_S, 77, 21637) = _
            rw [b191_129, if_pos rfl, b191_142]
            refine (congrArg (fun z => am_call z _) a2).trans ?_
            rw [am_call_s, am_toL]
        · obtain ⟨q1, q2⟩ := g.fl3 (lo := lo) (Jc := Jc) (x := x) a3 c7 (d + 58)
          refine ⟨Fc C' 3 p, Fmm M 3 p, J, u, 0, .int (nI j), ?_, ?_, a3.tr (Fc_f C' 3 p), Fmm_f M 3 p, JF.rf J, q2, fun z => absurd z (by rw [Fc_7]; decide)⟩
          · rw [b88_19]
            refine (congrArg (fun z => am_call z _) a1).trans ?_
            rw [am_call_s, am_toL, b88_30, if_pos c7, hu1, a7, if_pos (nI_in (by omega) (by omega))]
            (simp only [ck, cm])
            rw [if_pos hkk, hts, if_pos (nI_in (by omega) (by omega)), a3 _ _ (by omega), f5, if_neg (nI_nle (by omega) (by omega))]
            refine (congrArg (fun z => am_call z _) q1).trans ?_
            rw [am_call_s, am_toN]
          · have m1 := g.failM (e + 8) 3
            rw [f1]
            show am_ev (e + 9 + 1) 191 129 [.ref 0, .int (nI (24 * xb (!x) + N 7)), .int (nI j)] [.int (nI (24 * xb (!x) + kk))] (M, J, tm_R, tm_S, 77, 21637) = _
            rw [b191_129, if_neg (nI_ne (by omega))]
            refine (congrArg (fun z => am_call z _) m1).trans ?_
            have bd : Bd (Fc C' 3 p) (Fmm M 3 p) := q2.bdd (by rw [Fmm_8]; decide)
            rw [am_call_s, am_toN, b191_142, bd.askM, am_call_s, am_toL]
    · obtain ⟨C', M', J', u, u', a1, a2, a3, a4, a5, a6, a7⟩ := h.asked (Jc := Jc) (x := x) hN (kd := 1) (by omega) (d + 56) (e + 6)
      have m107 : (if M 0 3 = 1 then am_call (am_G (am_ev (e + 9)) 168 [.ref 0, .long (J 0 7)] (M, J, tm_R, tm_S, 77, 21637)) (fun r M => am_ev (e + 9 + 1) 191 92 [.ref 0, .int (nI (24 * xb (!x) + N 7)), am_un] (r.toList ++ []) M) else am_ev (e + 9 + 1) 191 107 [.ref 0, .int (nI (24 * xb (!x) + N 7)), am_un] [] (M, J, tm_R, tm_S, 77, 21637)) = am_ev (e + 9 + 1) 191 107 [.ref 0, .int (nI (24 * xb (!x) + N 7)), am_un] [] (M, J, tm_R, tm_S, 77, 21637) := by
        by_cases z3 : k = 3
        · obtain ⟨t1, t2, t3⟩ := g.t3 z3
          rw [if_pos ((g.me (c := 1) (j := 1) rfl (by omega)).mpr (mkk_1.mpr (Or.inr z3))), t3, m_own1 _ _ _ t1, am_call_s, am_toL, b191_92, if_neg (by decide : ¬ (1 : Int32) = 0)]
        · rw [if_neg (fun y => by have := mkk_1.mp ((g.me (c := 1) (j := 1) rfl (by omega)).mp y); omega)]
      have c7n : ¬ C' 1 7 = 0 := by
        have c1 := g.failC (Jc := Jc) (x := x) (d + 57) 1
        have e1 : am_G (am_ev (d + 56 + 3)) 83 [.ref 1, .int (nI 1)] (C, Jc, (tc_R x), tc_S, 289, 11479) = some (some (.int (-1)), (Fc C 1 p, Jc, (tc_R x), tc_S, 289, 11479)) := by
          rw [b83_0, if_neg (fun y => hk ((g.ke (c := 2) (j := 2) rfl (by omega)).mp y))]
          refine (congrArg (fun z => am_call z _) c1).trans ?_
          rw [am_call_s, am_toN, b83_17]
        have e2 := e1.symm.trans a1
        have e3 : Fc C 1 p = C' := by
          injection e2 with e2
          injection e2 with _ e2
          injection e2
        rw [← e3, Fc_7]; decide
      refine ⟨C', M', J', u, u', .int (-1), ask a1 c7n, ?_, a3, a4, a5, a6, fun z => absurd z c7n⟩
      rw [m107, b191_107, b191_108, if_pos rfl, b191_142]
      refine (congrArg (fun z => am_call z _) a2).trans ?_
      rw [am_call_s, am_toL]
  · obtain ⟨C', u, a1, a2, a3, a4⟩ := g.tt (Jc := Jc) (x := x) 1 (d + 57)
    refine ⟨C', M, J, u, 0, .int (-1), ask a1 a4, ?_, a2, MF.rf M, JF.rf J, h.bd a2 a3, fun z => absurd z a4⟩
    rw [if_neg g.m8, b191_107, b191_108, if_pos rfl, b191_142, g.askM, am_call_s, am_toL]
theorem st_needs (g : Gd T n C M J p q k v w) (hk : k = 3) (hP : PL x N la lb C M J) (hla : la ≤ p) (hlb : lb ≤ p) (d e : Nat) : Stm x T n 88 191 p C M J Jc d e := by
  have hb1 := xb1 (!x)
  have hy := tc_P4 (!x)
  have nk : N 7 ≤ 24 := (hP.1 7 (by omega)).2.2
  have n2 : N 2 ≤ 6 := (hP.1 2 (by omega)).2.2
  have i51 : M 0 51 = nI (xb (!x)) := hP.2.2
  have hin : am_in (nI (xb (!x))) 2 := nI_in (by omega) (by omega)
  have cb : Int32.toNatClampNeg (nI (xb (!x))) = xb (!x) := nI_clamp (by omega)
  have kc1 : M 14 (xb (!x)) = nI (N 7) := (hP.1 7 (by omega)).2.1
  obtain ⟨C1, M1, J1, s, b1, b2, b3, b4, b5, b6, b7, b8⟩ := g.beg (Jc := Jc) hk hP (kd := 7) (by omega) (d + 56) (e + 6)
  have m0 : am_G (am_ev (e + 10)) 191 [.ref 0] (M, J, tm_R, tm_S, 77, 21637) = am_ev (e + 10) 191 23 [.ref 0, am_un, am_un] [.int s] (M1, J1, tm_R, tm_S, 77, 21637) := by
    (rw [b191_0, i51, if_pos hin]; (try simp only [cb]); rw [kc1])
    rcases b2 with ⟨z, b2⟩ | ⟨z, b2⟩
    · have z : N 7 = 24 := z
      rw [if_pos (by rw [z]; rfl), b2, am_call_s, am_toL]
    · have z : N 7 < 24 := z
      rw [if_neg (neR (c := 24) 24 rfl (by omega) (by omega) (by omega)), b2, am_call_s, am_toL]
  by_cases h8 : M1 0 8 = 0
  · obtain ⟨rfl, hlt0⟩ := b7 h8
    have hlt : N 7 < 24 := hlt0
    have i51a : M1 0 51 = nI (xb (!x)) := (b4 0 51 (by omega)).trans i51
    have kca : M1 14 (xb (!x)) = nI (N 7) := (b4 14 _ (by omega)).trans kc1
    have ix : (24 : Int32) * nI (xb (!x)) + nI (N 7) = nI (24 * xb (!x) + N 7) := nI_ix 24 _ _
    have ii : am_in (nI (24 * xb (!x) + N 7)) 48 := nI_in (by omega) (by omega)
    have ct : Int32.toNatClampNeg (nI (24 * xb (!x) + N 7)) = 24 * xb (!x) + N 7 := nI_clamp (by omega)
    have nm0 : Nm (!x) C1 M1 J1 := hP.nm.tf b3 b4 b5
    obtain ⟨C2, M2, J2, u1, w1, r1a, r1b, r1c, r1d, r1e, r1f, r1g⟩ := Sy.asked (Jc := Jc) (x := x) b6 nm0 (kd := 2) (by omega) (d + 56) (e + 6)
    have nm1 := (nm0.tf r1c r1d r1e).uM (c := 15) (i := 24 * xb (!x) + N 7) (by omega) (by omega) (by omega) (by omega) (by omega) (by omega) (by omega) (by omega) (by omega) (by omega) w1
    have s1 := r1f.uM (c := 15) (i := 24 * xb (!x) + N 7) (by omega) w1
    obtain ⟨C3, M3, J3, u2, w2, r2a, r2b, r2c, r2d, r2e, r2f, r2g⟩ := Sy.num (Jc := Jc) (x := x) s1 (a := 1) (a' := 1) (b := 9) (l0 := 1) (hi := 9) rfl (by omega) (fun _ => ⟨rfl, rfl, by omega⟩) (d + 56) (e + 6)
    have nm2 := (nm1.tf r2c r2d r2e).uM (c := 16) (i := 24 * xb (!x) + N 7) (by omega) (by omega) (by omega) (by omega) (by omega) (by omega) (by omega) (by omega) (by omega) (by omega) w2
    have s2 := r2f.uM (c := 16) (i := 24 * xb (!x) + N 7) (by omega) w2
    have tf3 : TF C C3 := b3.tr (r1c.tr r2c)
    have fM3 : ∀ a j, (a = 0 → j < 3 ∨ 9 < j) → ¬ (a = 15 ∧ j = 24 * xb (!x) + N 7) → ¬ (a = 16 ∧ j = 24 * xb (!x) + N 7) → am_u2 M3 16 (24 * xb (!x) + N 7) w2 a j = M a j := fun a j h0 h1 h2 => by
      rw [fr1 (orr (fun z1 z2 => h2 ⟨z1, z2⟩)), r2d a j h0, fr1 (orr (fun z1 z2 => h1 ⟨z1, z2⟩)), r1d a j h0, b4 a j h0]
    have v15 : am_u2 M3 16 (24 * xb (!x) + N 7) w2 15 (24 * xb (!x) + N 7) = w1 := by rw [u2_c (by omega), r2d 15 _ (by omega), u2_s]
    have hj : ∃ j1, am_u2 M3 16 (24 * xb (!x) + N 7) w2 0 8 = 0 → u1 = nI j1 ∧ am_u2 M3 16 (24 * xb (!x) + N 7) w2 15 (24 * xb (!x) + N 7) = nI j1 ∧ j1 < 6 := by
      by_cases z : M3 0 8 = 0
      · obtain ⟨z2, _⟩ := r2g (r2f.c7 z)
        have z2 : M2 0 8 = 0 := (u2_c (by omega)).symm.trans z2
        obtain ⟨_, j, e1, e2, e3, e4⟩ := r1g (r1f.c7 z2)
        exact ⟨j, fun _ => ⟨e1, v15.trans (e4 z2), e3⟩⟩
      · exact ⟨0, fun y => absurd ((u2_c (by omega)).symm.trans y) z⟩
    obtain ⟨j1, hj⟩ := hj
    have hd : gNd (!x) N C3 (am_u2 M3 16 (24 * xb (!x) + N 7) w2) := hP.2.1.2.2.2.2.1.fr (fun s q _ _ => tf3 _ _ (by omega)) (fun k _ => fM3 _ _ (by omega) (by omega) (by omega)) (fun k _ => fM3 _ _ (by omega) (by omega) (by omega)) (fun k _ => fM3 _ _ (by omega) (by omega) (by omega))
    obtain ⟨C4, M4, J4, u3, w3, v3, r3a, r3b, r3c, r3d, r3e, r3f, r3g⟩ := nds2 (Jc := Jc) (x := x) (u2 := u2) s2 nm2 hd ((fM3 14 _ (by omega) (by omega) (by omega)).trans kc1) hlt hj d e
    have tfC : TF C C4 := tf3.tr r3c
    have jfJ : JF J J4 := b5.tr (r1e.tr (r2e.tr r3e))
    have fM : ∀ a j, (a = 0 → j < 3 ∨ 9 < j) → ¬ (a = 15 ∧ j = 24 * xb (!x) + N 7) → ¬ (a = 16 ∧ j = 24 * xb (!x) + N 7) → M4 a j = M a j := fun a j h0 h1 h2 => by rw [r3d a j h0, fM3 a j h0 h1 h2]
    have i51z : M4 0 51 = nI (xb (!x)) := (fM 0 51 (by omega) (by omega) (by omega)).trans i51
    have kcz : M4 14 (xb (!x)) = nI (N 7) := (fM 14 _ (by omega) (by omega) (by omega)).trans kc1
    have cN : C (tc_P (!x) + 1) 7 = nI (N 7) := (hP.1 7 (by omega)).1
    have rm : RM (!x) M M4 := ((((((b4.rm (y := !x)).tr r1d.rm).u (c := 15) (i := 24 * xb (!x) + N 7) (by omega) (by omega) (show 24 * xb (!x) ≤ _ by omega) (show _ < 24 * xb (!x) + 24 by omega) w1).tr r2d.rm).u (c := 16) (i := 24 * xb (!x) + N 7) (by omega) (by omega) (show 24 * xb (!x) ≤ _ by omega) (show _ < 24 * xb (!x) + 24 by omega) w2).tr r3d.rm)
    have rmf : RM (!x) M (am_u2 M4 17 (24 * xb (!x) + N 7) w3) := rm.u (c := 17) (i := 24 * xb (!x) + N 7) (by omega) (by omega) (show 24 * xb (!x) ≤ _ by omega) (show _ < 24 * xb (!x) + 24 by omega) w3
    have cc : ∀ Z, am_ev (d + 60) 88 60 [.ref 1, .int u1, .int u2, .int (C3 1 6), .int u3] [] (C4, Jc, (tc_R x), tc_S, 289, 11479) = Z → am_G (am_ev (d + 60)) 88 [.ref 1] (C, Jc, (tc_R x), tc_S, 289, 11479) = Z := by
      intro Z hZ
      refine (b88_0 _ _ _ _).trans ((congrArg (fun z => am_call z _) b1).trans ?_)
      rw [am_call_s, am_toN, b88_6]
      refine (congrArg (fun z => am_call z _) r1a).trans ?_
      rw [am_call_s, am_toL, b88_11]
      refine (congrArg (fun z => am_call z _) r2a).trans ?_
      rw [am_call_s, am_toL]
      exact r3a.trans hZ
    have mz : ∀ Z, am_ev (e + 10) 191 152 [.ref 0, .int (nI (24 * xb (!x) + N 7)), v3] [.int w3, .int (nI (24 * xb (!x) + N 7)), .ref 17] (M4, J4, tm_R, tm_S, 77, 21637) = Z → am_G (am_ev (e + 10)) 191 [.ref 0] (M, J, tm_R, tm_S, 77, 21637) = Z := by
      intro Z hZ
      (rw [m0, b191_23, if_neg (by decide : ¬ (1 : Int32) = 0), i51a, if_pos hin]; (try simp only [cb]); rw [kca, ix])
      refine (congrArg (fun z => am_call z _) r1b).trans ?_
      (rw [am_call_s, am_toL, b191_55, if_pos ii]; (try simp only [ct]))
      refine (congrArg (fun z => am_call z _) r2b).trans ?_
      (rw [am_call_s, am_toL, b191_68, if_pos ii]; (try simp only [ct]))
      have e8 : am_u2 M3 16 (24 * xb (!x) + N 7) w2 0 8 = M3 0 8 := u2_c (by omega)
      have e3 : am_u2 M3 16 (24 * xb (!x) + N 7) w2 0 3 = M3 0 3 := u2_c (by omega)
      rw [e8, e3] at r3b
      exact r3b.trans hZ
    have kn : C4 1 7 = 0 → ∃ j m, u1 = nI j1 ∧ w1 = nI j1 ∧ j1 < N 2 ∧ u2 = nI m ∧ w2 = nI m ∧ 1 ≤ m ∧ m ≤ 9 ∧ u3 = nI j ∧ j < N 1 ∧ j < 8 ∧ ndF M (xb (!x)) j1 j (N 7) = none ∧ (M4 0 8 = 0 → w3 = nI j) := by
      intro y3
      obtain ⟨z3, j, e3a, e3b, e3c, e3d, e3e⟩ := r3g y3
      obtain ⟨h1, h2, h3⟩ := hj z3
      have z3 : M3 0 8 = 0 := (u2_c (by omega)).symm.trans z3
      obtain ⟨z2, m, e2a, e2b, e2c, e2d⟩ := r2g (r2f.c7 z3)
      have z2 : M2 0 8 = 0 := (u2_c (by omega)).symm.trans z2
      obtain ⟨_, jj, e1a, e1b, e1c, e1d⟩ := r1g (r1f.c7 z2)
      have ej : jj = j1 := (nI_eq (by have : jj < 6 := e1c; omega) (by omega)).mp (e1a.symm.trans h1)
      have k11 : M 11 (xb (!x)) = nI (N 2) := (hP.1 2 (by omega)).2.1
      have k6 : M 6 (xb (!x)) = nI (N 1) := (hP.1 1 (by omega)).2.1
      have n1 : N 1 ≤ 8 := (hP.1 1 (by omega)).2.2
      have c1 : Int32.toNatClampNeg (M1 11 (xb (!x))) = N 2 := by rw [b4 11 _ (by omega), k11]; exact nI_clamp (by omega)
      have c2 : Int32.toNatClampNeg (am_u2 M3 16 (24 * xb (!x) + N 7) w2 6 (xb (!x))) = N 1 := by rw [fM3 6 _ (by omega) (by omega) (by omega), k6]; exact nI_clamp (by omega)
      have e1b : jj < Int32.toNatClampNeg (M1 11 (xb (!x))) := e1b
      have hF : ndF (am_u2 M3 16 (24 * xb (!x) + N 7) w2) (xb (!x)) j1 j (N 7) = ndF M (xb (!x)) j1 j (N 7) := by
        unfold ndF
        refine fnd_congr _ _ (fun i _ hi => ?_)
        rw [fM3 15 _ (by omega) (by omega) (by omega), fM3 17 _ (by omega) (by omega) (by omega)]
      exact ⟨j, m, h1, v15.symm.trans h2, by omega, e2a, e2b, e2c, e2d, e3a, by omega, e3c, hF ▸ e3d, e3e⟩
    have mB : ¬ M4 0 8 = 0 → am_G (am_ev (e + 10)) 191 [.ref 0] (M, J, tm_R, tm_S, 77, 21637) = some (none, (am_u2 M4 17 (24 * xb (!x) + N 7) w3, J4, tm_R, tm_S, 77, 21637)) := fun z8 => mz _ (by (rw [b191_152, if_pos ii, if_neg z8]; (try simp only [ct])))
    by_cases c7 : C4 1 7 = 0
    · obtain ⟨j, m, rfl, rfl, l1, rfl, rfl, l2, l3, rfl, l4, l5, l6, l7⟩ := kn c7
      have ck : Int32.toNatClampNeg (nI j1) = j1 := nI_clamp (by omega)
      have cm : Int32.toNatClampNeg (nI j) = j := nI_clamp (by omega)
      have c8 : Int32.toNatClampNeg (7 : Int32) = 7 := by decide +kernel
      have i9 : am_in (7 : Int32) 9 := by decide +kernel
      have hts := ts_nd (!x) j1 (by omega)
      have hkk : (tc_S (tc_P (!x) + 15 + j1)).1 = 20 ∧ tc_P (!x) + 15 + j1 < 289 := ⟨by rw [hts], by omega⟩
      have e1 : am_u2 C4 (tc_P (!x) + 15 + j1) j (nI m) (tc_P (!x) + 1) 7 = nI (N 7) := by rw [u2_c (by omega), tfC _ _ (by omega)]; exact cN
      have cA : am_G (am_ev (d + 60)) 88 [.ref 1] (C, Jc, (tc_R x), tc_S, 289, 11479) = some (none, (am_u2 (am_u2 C4 (tc_P (!x) + 15 + j1) j (nI m)) (tc_P (!x) + 1) 7 (nI (N 7 + 1)), Jc, (tc_R x), tc_S, 289, 11479)) := cc _ (by
        rw [b88_60, if_pos c7, if_pos (nI_in (by omega) (by omega))]
        (simp only [ck, cm, c8])
        rw [if_pos hkk, hts, if_pos (nI_in (by omega) (by omega)), if_pos i9, if_pos i9, e1, nI_1])
      have rc : RC (!x) C (am_u2 (am_u2 C4 (tc_P (!x) + 15 + j1) j (nI m)) (tc_P (!x) + 1) 7 (nI (N 7 + 1))) := ((tfC.rc (y := !x)).vv (c := tc_P (!x) + 15 + j1) (by omega) _).vv (c := tc_P (!x) + 1) (by omega) _
      have sC : Sy T n (p + 1) (am_u2 (am_u2 C4 (tc_P (!x) + 15 + j1) j (nI m)) (tc_P (!x) + 1) 7 (nI (N 7 + 1))) (am_u2 M4 17 (24 * xb (!x) + N 7) w3) J4 := ((r3f.uM (by omega) w3).uC (by omega) _).uC (by omega) _
      by_cases z8 : M4 0 8 = 0
      · obtain rfl := l7 z8
        refine ⟨_, am_u2 (am_u2 M4 17 (24 * xb (!x) + N 7) (nI j)) 14 (xb (!x)) (nI (N 7 + 1)), J4, cA, mz _ ?_, rc, rmf.u (c := 14) (by omega) (by omega) (show 1 * xb (!x) ≤ _ by omega) (show _ < 1 * xb (!x) + 1 by omega) _, jfJ.rj, p + 1, by omega, sC.uM (by omega) _, fun _ => ⟨upN N 7, la, lb, ⟨?_, ?_, ?_⟩, by omega, by omega⟩⟩
        · (rw [b191_152, if_pos ii, if_pos z8, i51z, if_pos hin, if_pos hin]; (try simp only [ct]); (try simp only [cb]); rw [kcz, nI_1])
        · refine hP.1.up (by omega) hlt0 (fun i hi => ?_) (fun i hi => ?_)
          · have t0 : C4 (tc_P (!x) + 1) i = C (tc_P (!x) + 1) i := tfC _ _ (by omega)
            by_cases zi : i = 7
            · rw [u2_e rfl zi, if_pos zi]
            · rw [u2_p zi, u2_c (by omega), if_neg zi, t0]
          · have c9 := cq9 hi
            by_cases zi : i = 7
            · subst zi
              rw [if_pos rfl]; exact u2_s
            · have t1 : cqq i ≠ 17 ∧ cqq i ≠ 15 ∧ cqq i ≠ 16 := by
                have := c9.2.1
                simp only [List.mem_cons, List.not_mem_nil, or_false] at this
                omega
              rw [if_neg zi, u2_c (show cqq i ≠ 14 from c9.2.2 7 (by omega) zi), u2_c t1.1]
              exact fM _ _ (by have := c9.1; omega) (by omega) (by omega)
        · have v7 : upN N 7 7 = N 7 + 1 := upN_s N 7
          have v1 : upN N 7 1 = N 1 := upN_o N (by omega)
          have v2 : upN N 7 2 = N 2 := upN_o N (by omega)
          have v6 : upN N 7 6 = N 6 := upN_o N (by omega)
          have hC : ∀ a b, (a = 1 → b < 3) → (a = tc_P (!x) + 15 + j1 → b ≠ j) → (a = tc_P (!x) + 1 → b ≠ 7) → am_u2 (am_u2 C4 (tc_P (!x) + 15 + j1) j (nI m)) (tc_P (!x) + 1) 7 (nI (N 7 + 1)) a b = C a b := fun a b q1 q2 q3 => by
            rw [fr1 (orr q3), fr1 (orr q2)]; exact tfC a b q1
          have hM : ∀ a j', (a = 0 → j' < 3 ∨ 9 < j') → (15 ≤ a ∧ a ≤ 17 → j' ≠ 24 * xb (!x) + N 7) → a ≠ 14 → am_u2 (am_u2 M4 17 (24 * xb (!x) + N 7) (nI j)) 14 (xb (!x)) (nI (N 7 + 1)) a j' = M a j' := fun a j' q1 q2 q3 => by
            rw [u2_c q3, fr1 (orr (fun z => q2 (by omega)))]; exact fM a j' q1 (fun z => q2 (by omega) z.2) (fun z => q2 (by omega) z.2)
          have x15 : am_u2 (am_u2 M4 17 (24 * xb (!x) + N 7) (nI j)) 14 (xb (!x)) (nI (N 7 + 1)) 15 (24 * xb (!x) + N 7) = nI j1 := by
            rw [u2_c (by omega), u2_c (by omega), r3d 15 _ (by omega)]; exact v15
          have x16 : am_u2 (am_u2 M4 17 (24 * xb (!x) + N 7) (nI j)) 14 (xb (!x)) (nI (N 7 + 1)) 16 (24 * xb (!x) + N 7) = nI m := by
            rw [u2_c (by omega), u2_c (by omega), r3d 16 _ (by omega), u2_s]
          have x17 : am_u2 (am_u2 M4 17 (24 * xb (!x) + N 7) (nI j)) 14 (xb (!x)) (nI (N 7 + 1)) 17 (24 * xb (!x) + N 7) = nI j := by
            rw [u2_c (by omega), u2_s]
          obtain ⟨g1, g2, g3, g4, g5, g6, g7, g8, g9, g10⟩ := hP.2.1
          have n1 : N 1 ≤ 8 := (hP.1 1 (by omega)).2.2
          have nomt : ∀ i, i < N 7 → ¬ (M 15 (24 * xb (!x) + i) = nI j1 ∧ M 17 (24 * xb (!x) + i) = nI j) := fun i hi => by
            have r := fnd_none _ _ l6 i (by omega) (by omega)
            rw [decide_eq_false_iff_not] at r; exact r
          refine PG.fr0 (N := N) (la := la) (lb := lb) (C := C) (M := M) (J := J) ⟨g1, g2, g3, g4, g5, g6, g7, g8, g9, g10⟩ (fun i hi => upN_o N (by omega)) (fun o k h1 h2 h3 _ => hC _ _ (by omega) (by omega) (by omega)) (fun a k h1 h2 h3 hk => hM _ _ (by omega) (by omega) (fun z => by subst z; exact absurd hk (Nat.not_lt_zero _))) (fun q k hq _ => jfJ _ _ (jk_0 hq)) ?_ ?_ ?_ ?_
          · unfold gNd
            rw [v7, v1, v2]
            refine ⟨fun s q hs hq => ?_, fun k hk => ?_, fun k l hkl hl => ?_⟩
            · have e0 : ndS (am_u2 (am_u2 M4 17 (24 * xb (!x) + N 7) (nI j)) 14 (xb (!x)) (nI (N 7 + 1))) (xb (!x)) s q (N 7) = ndS M (xb (!x)) s q (N 7) := ndS_eq (N 7) (fun k hk => ⟨hM _ _ (by omega) (by omega) (by omega), hM _ _ (by omega) (by omega) (by omega), hM _ _ (by omega) (by omega) (by omega)⟩)
              show _ = ndS _ (xb (!x)) s q (N 7) + nd1 _ (xb (!x)) s q (N 7)
              rw [e0]
              unfold nd1
              rw [x15, x16, x17]
              by_cases zz : s = j1 ∧ q = j
              · obtain ⟨rfl, rfl⟩ := zz
                rw [if_pos ⟨rfl, rfl⟩, ndS_0 (N 7) nomt, Int32.zero_add, u2_c (by omega), u2_s]
              · rw [if_neg (fun z => zz ⟨((nI_eq (by omega) (by omega)).mp z.1).symm, ((nI_eq (by omega) (by omega)).mp z.2).symm⟩), Int32.add_zero, hC _ _ (by omega) (by omega) (by omega)]
                exact g5.1 s q hs hq
            · by_cases zk : k < N 7
              · rw [hM 15 _ (by omega) (by omega) (by omega), hM 16 _ (by omega) (by omega) (by omega), hM 17 _ (by omega) (by omega) (by omega)]
                exact g5.2.1 k zk
              · obtain rfl : k = N 7 := by omega
                exact ⟨j1, j, m, x15, x17, x16, l1, l4, l2, l3⟩
            · rw [hM 15 (24 * xb (!x) + k) (by omega) (by omega) (by omega), hM 17 (24 * xb (!x) + k) (by omega) (by omega) (by omega)]
              by_cases zk : l < N 7
              · rw [hM 15 _ (by omega) (by omega) (by omega), hM 17 _ (by omega) (by omega) (by omega)]
                exact g5.2.2 k l hkl zk
              · obtain rfl : l = N 7 := by omega
                rw [x15, x17]; exact nomt k hkl
          · exact (g6.fr n2 (fun a c _ _ => hC _ _ (by omega) (by omega) (by omega)) (fun a c _ _ => hM _ _ (by omega) (by omega) (by omega))).cg v2
          · exact g9.fr (fun k _ _ => hC _ _ (by omega) (by omega) (by omega)) (fun a _ _ => hM _ _ (by omega) (by omega) (by omega))
          · exact (g10.fr (hC _ _ (by omega) (by omega) (by omega)) (fun k _ => hC _ _ (by omega) (by omega) (by omega)) (fun k _ => hC _ _ (by omega) (by omega) (by omega)) (hM _ _ (by omega) (by omega) (by omega)) (fun k _ => hM _ _ (by omega) (by omega) (by omega)) (fun k _ => hM _ _ (by omega) (by omega) (by omega)) (fun k _ => hM _ _ (by omega) (by omega) (by omega)) (fun k _ => hM _ _ (by omega) (by omega) (by omega))).cg v6
        · rw [u2_c (by omega), u2_c (by omega)]; exact i51z
      · exact ⟨_, _, J4, cA, mB z8, rc, rmf, jfJ.rj, p + 1, by omega, sC, fun z => absurd ((u2_c (by omega)).symm.trans z) z8⟩
    · have z8 : ¬ M4 0 8 = 0 := fun z => c7 (r3f.c7 z)
      exact ⟨C4, _, J4, cc _ (by rw [b88_60, if_neg c7]), mB z8, tfC.rc, rmf, jfJ.rj, p + 1, by omega, r3f.uM (by omega) w3, fun z => absurd ((u2_c (by omega)).symm.trans z) z8⟩
  · obtain ⟨rfl, bd1⟩ := b8 h8
    obtain ⟨D1, u1, t1a, t1b, t1c, t1d⟩ := bd1.tt (Jc := Jc) (x := x) 2 (d + 57)
    obtain ⟨D2, u2, t2a, t2b, t2c, t2d⟩ := t1c.tn (Jc := Jc) (x := x) 1 9 (d + 57)
    obtain ⟨D3, u3, t3a, t3b, t3c, t3d⟩ := t2c.tt (Jc := Jc) (x := x) 1 (d + 57)
    have tfD : TF C D3 := b3.tr (t1b.tr (t2b.tr t3b))
    refine ⟨D3, M1, J1, ?_, ?_, tfD.rc, b4.rm, b5.rj, p + 1, by omega, ⟨g.1.1.tf tfD b4, g.1.2.2.2.2.2.fr (fun b => tfD 2 b (fun z => by omega)), Or.inr t3c⟩, fun z => absurd z h8⟩
    · refine (b88_0 _ _ _ _).trans ((congrArg (fun z => am_call z _) b1).trans ?_)
      rw [am_call_s, am_toN, b88_6]
      refine (congrArg (fun z => am_call z _) t1a).trans ?_
      rw [am_call_s, am_toL, b88_11]
      refine (congrArg (fun z => am_call z _) t2a).trans ?_
      rw [am_call_s, am_toL, b88_19]
      refine (congrArg (fun z => am_call z _) t3a).trans ?_
      rw [am_call_s, am_toL, b88_30, if_neg t3d, b88_60, if_neg t3d]
    · rw [m0, b191_23, if_pos rfl]
end NED
