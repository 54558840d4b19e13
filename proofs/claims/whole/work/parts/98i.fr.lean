/-! the groups of the plan one by one -/
section FRS
variable {y : Bool} {N N' : Nat → Nat} {la lb : Nat} {C M C' M' : tI} {J J' : tJ}
theorem gNd.fr (h5 : gNd y N C M) (hC : ∀ s q, s < 6 → q < 8 → C' (tc_P y + 15 + s) q = C (tc_P y + 15 + s) q) (a1 : ∀ k, k < N 7 → M' 15 (24 * xb y + k) = M 15 (24 * xb y + k)) (a2 : ∀ k, k < N 7 → M' 16 (24 * xb y + k) = M 16 (24 * xb y + k)) (a3 : ∀ k, k < N 7 → M' 17 (24 * xb y + k) = M 17 (24 * xb y + k)) : gNd y N C' M' := by
  refine ⟨fun s q hs hq => ?_, fun k hk => ?_, fun k l hk hl => ?_⟩
  · rw [hC s q hs hq, ndS_eq (M := M) (N 7) (fun k hk => ⟨a1 k hk, a2 k hk, a3 k hk⟩)]
    exact h5.1 s q hs hq
  · rw [a1 k hk, a2 k hk, a3 k hk]; exact h5.2.1 k hk
  · rw [a1 k (by omega), a3 k (by omega), a1 l hl, a3 l hl]; exact h5.2.2 k l hk hl
theorem gCh.fr (h6 : gCh y N C M) (n2 : N 2 ≤ 6) (e : ∀ a c, a < 6 → c < 6 → C' (tc_P y + 22 + a) c = C (tc_P y + 22 + a) c) (a1 : ∀ a c, a < 6 → c < 6 → M' 19 (6 * (6 * xb y + a) + c) = M 19 (6 * (6 * xb y + a) + c)) : gCh y N C' M' := by
  refine ⟨fun a c ha hc hh => ?_, fun a c ha hc => ?_⟩
  · rw [e a c ha hc]; exact h6.1 a c ha hc hh
  · rw [e a c (by omega) (by omega), a1 a c (by omega) (by omega)]; exact h6.2 a c ha hc
theorem gZz.fr (h : gZz y C M) (e0 : ∀ k, 16 ≤ k → k ≤ 19 → C' (tc_P y) k = C (tc_P y) k) (e1 : ∀ a, 30 ≤ a → a ≤ 33 → M' a (xb y) = M a (xb y)) : gZz y C' M' := by
  unfold gZz at h ⊢
  rw [e0 16 (by omega) (by omega), e0 17 (by omega) (by omega), e0 18 (by omega) (by omega), e0 19 (by omega) (by omega), e1 30 (by omega) (by omega), e1 31 (by omega) (by omega), e1 32 (by omega) (by omega), e1 33 (by omega) (by omega)]
  exact h
theorem gLw.fr (h : gLw y N la lb C M) (c33 : C' (tc_P y + 33) 2 = C (tc_P y + 33) 2) (c34 : ∀ k, k < la → C' (tc_P y + 34) k = C (tc_P y + 34) k) (c35 : ∀ k, k ≤ N 6 → C' (tc_P y + 35) k = C (tc_P y + 35) k) (h50 : M' 0 50 = M 0 50) (a1 : ∀ k, k < N 6 → M' 35 (8 * xb y + k) = M 35 (8 * xb y + k)) (a2 : ∀ k, k < N 6 → M' 36 (8 * xb y + k) = M 36 (8 * xb y + k)) (a3 : ∀ k, k < lb → M' 37 (1600 * xb y + k) = M 37 (1600 * xb y + k)) (a4 : ∀ k, k < lb → M' 38 (1600 * xb y + k) = M 38 (1600 * xb y + k)) : gLw y N la lb C' M' := by
  obtain ⟨l1, l2, l3, l4⟩ := h
  refine ⟨c33.trans l1, h50.trans l2, fun z => ?_, fun k hk => ?_⟩
  · rw [c35 (N 6) (by omega)]; exact l3 z
  · obtain ⟨A, B, s, f, b1, b2, b3, b4, b5, b6, b7, b8, b9⟩ := l4 k hk
    refine ⟨A, B, s, f, ?_, ?_, b3, ?_, ?_, b6, fun i hi => ?_, fun i hi => ?_, b9⟩
    · rw [c35 k (by omega)]; exact b1
    · rw [c35 (k + 1) (by omega)]; exact b2
    · rw [a1 k hk]; exact b4
    · rw [a2 k hk]; exact b5
    · rw [c34 (s + i) (by omega)]; exact b7 i hi
    · rw [a3 (f + i) (by omega), a4 (f + i) (by omega)]; exact b8 i hi
/-- the plain groups by their places, the others given -/
theorem PG.fr0 {la' lb' : Nat} (h : PG y N la lb C M J) (hN : ∀ i, i < 6 → N' i = N i) (hC : ∀ o k, 3 ≤ o → o ≤ 32 → ¬ (15 ≤ o ∧ o ≤ 27) → k < prC N la o → C' (tc_P y + o) k = C (tc_P y + o) k) (hM : ∀ a k, 4 ≤ a → a ≤ 29 → ¬ (15 ≤ a ∧ a ≤ 19) → k < prM N lb a → M' a (sdd a * xb y + k) = M a (sdd a * xb y + k)) (hJ : ∀ q k, q < 5 → k < N q → J' (jk q) (kx q * xb y + k) = J (jk q) (kx q * xb y + k)) (hd : gNd y N' C' M') (hg : gCh y N' C' M') (hz : gZz y C' M') (hl : gLw y N' la' lb' C' M') : PG y N' la' lb' C' M' J' := by
  obtain ⟨h1, h2, h3, h4, _, _, h7, h8, _, _⟩ := h
  have N0 := hN 0 (by omega)
  have N1 := hN 1 (by omega)
  have N2 := hN 2 (by omega)
  have N4 := hN 4 (by omega)
  have N5 := hN 5 (by omega)
  refine ⟨?_, ?_, ?_, ?_, hd, hg, ?_, ?_, hz, hl⟩
  · intro q k hq hk
    rw [hN q (by omega)] at hk
    rw [hJ q k hq hk]
    have e : C' (tc_P y + 3 + q) k = C (tc_P y + 3 + q) k := by
      rcases q5 hq with rfl | rfl | rfl | rfl | rfl
      · exact hC 3 k (by omega) (by omega) (by omega) hk
      · exact hC 4 k (by omega) (by omega) (by omega) hk
      · exact hC 5 k (by omega) (by omega) (by omega) hk
      · exact hC 6 k (by omega) (by omega) (by omega) hk
      · exact hC 7 k (by omega) (by omega) (by omega) hk
    rw [e]; exact h1 q k hq hk
  · intro k hk
    rw [N0] at hk
    have a1 : M' 4 (6 * xb y + k) = M 4 (6 * xb y + k) := hM 4 k (by omega) (by omega) (by omega) hk
    have a2 : M' 5 (6 * xb y + k) = M 5 (6 * xb y + k) := hM 5 k (by omega) (by omega) (by omega) hk
    rw [hC 8 k (by omega) (by omega) (by omega) hk, hC 9 k (by omega) (by omega) (by omega) hk, a1, a2]; exact h2 k hk
  · intro k hk
    rw [N1] at hk
    have a1 : M' 8 (8 * xb y + k) = M 8 (8 * xb y + k) := hM 8 k (by omega) (by omega) (by omega) hk
    have a2 : M' 9 (8 * xb y + k) = M 9 (8 * xb y + k) := hM 9 k (by omega) (by omega) (by omega) hk
    have a3 : M' 10 (8 * xb y + k) = M 10 (8 * xb y + k) := hM 10 k (by omega) (by omega) (by omega) hk
    rw [N0, hC 10 k (by omega) (by omega) (by omega) hk, hC 11 k (by omega) (by omega) (by omega) hk, hC 12 k (by omega) (by omega) (by omega) hk, a1, a2, a3]; exact h3 k hk
  · intro k hk
    rw [N2] at hk
    have a1 : M' 13 (6 * xb y + k) = M 13 (6 * xb y + k) := hM 13 k (by omega) (by omega) (by omega) hk
    rw [hC 13 k (by omega) (by omega) (by omega) hk, a1]; exact h4 k hk
  · intro k hk
    rw [N4] at hk
    have a1 : M' 24 (8 * xb y + k) = M 24 (8 * xb y + k) := hM 24 k (by omega) (by omega) (by omega) hk
    have a2 : M' 25 (8 * xb y + k) = M 25 (8 * xb y + k) := hM 25 k (by omega) (by omega) (by omega) hk
    rw [N2, hC 28 k (by omega) (by omega) (by omega) hk, hC 29 k (by omega) (by omega) (by omega) hk, a1, a2]; exact h7 k hk
  · intro k hk
    rw [N5] at hk
    have a1 : M' 27 (8 * xb y + k) = M 27 (8 * xb y + k) := hM 27 k (by omega) (by omega) (by omega) hk
    have a2 : M' 28 (8 * xb y + k) = M 28 (8 * xb y + k) := hM 28 k (by omega) (by omega) (by omega) hk
    have a3 : M' 29 (8 * xb y + k) = M 29 (8 * xb y + k) := hM 29 k (by omega) (by omega) (by omega) hk
    rw [N2, hC 30 k (by omega) (by omega) (by omega) hk, hC 31 k (by omega) (by omega) (by omega) hk, hC 32 k (by omega) (by omega) (by omega) hk, a1, a2, a3]; exact h8 k hk
end FRS
section SHT
variable {T : Nat → Nat} {n lo p q k v la lb : Nat} {w : List Nat} {x y : Bool} {C M C' M' : tI} {J J' Jc : tJ} {N : Nat → Nat}
/-- a statement that is always begun -/
theorem Gd.beg0 (g : Gd T n C M J p q k v w) (hk : k = 3) (d e : Nat) : ∃ C1 M1 J1 s, am_G (am_ev (d + 2)) 76 [.ref 1] (C, Jc, (tc_R x), tc_S, 289, 11479) = some (none, (C1, Jc, (tc_R x), tc_S, 289, 11479)) ∧ am_G (am_ev (e + 3)) 183 [.ref 0, .int 0] (M, J, tm_R, tm_S, 77, 21637) = some (some (.int s), (M1, J1, tm_R, tm_S, 77, 21637)) ∧ TF C C1 ∧ MF M M1 ∧ JF J J1 ∧ Sy T n (p + 1) C1 M1 J1 ∧ (M1 0 8 = 0 → s = 1) ∧ (¬ M1 0 8 = 0 → s = 0 ∧ Bd C1 M1) := by
  obtain ⟨C1, M1, J1, a1, a2, a3, a4, a5, a6, a7⟩ := g.go (Jc := Jc) (x := x) (by omega) (by omega) d e
  refine ⟨C1, M1, J1, if M1 0 8 = 0 then 1 else 0, a1, ?_, a3, a4, a5, a6, fun h8 => if_pos h8, fun h8 => ⟨if_neg h8, a6.bdd h8⟩⟩
  rw [b183_0, if_pos g.m8, if_pos rfl, b183_20, if_pos g.m8, a2, am_call_s, am_toN, b183_31, ite_int]
theorem PL.zz (hP : PL x N la lb C M J) (hC : ∀ a b, (a = 1 → b < 3) → (a = tc_P (!x) → b < 16) → C' a b = C a b) (hM : ∀ a j, (a = 0 → j < 3 ∨ 9 < j) → ¬ (30 ≤ a ∧ a ≤ 33) → M' a j = M a j) (hJ : JF J J') (hz : gZz (!x) C' M') : PL x N la lb C' M' J' := by
  have hy := tc_P4 (!x)
  have n2 : N 2 ≤ 6 := (hP.1 2 (by omega)).2.2
  obtain ⟨h1, h2, h3⟩ := hP
  refine ⟨fun i hi => ?_, ?_, ?_⟩
  · have c9 := cq9 hi
    have t1 : 2 ≤ cqq i ∧ ¬ (30 ≤ cqq i ∧ cqq i ≤ 33) := by
      have := c9.2.1
      simp only [List.mem_cons, List.not_mem_nil, or_false] at this
      omega
    rw [hC _ _ (by omega) (by omega), hM _ _ (by omega) t1.2]; exact h1 i hi
  · refine h2.fr0 (fun _ _ => rfl) (fun o k _ _ _ _ => hC _ _ (by omega) (by omega)) (fun a k _ _ _ _ => hM _ _ (by omega) (by omega)) (fun q k hq _ => hJ _ _ (jk_0 hq)) ?_ ?_ hz ?_
    · exact h2.2.2.2.2.1.fr (fun s q _ _ => hC _ _ (by omega) (by omega)) (fun k _ => hM _ _ (by omega) (by omega)) (fun k _ => hM _ _ (by omega) (by omega)) (fun k _ => hM _ _ (by omega) (by omega))
    · exact h2.2.2.2.2.2.1.fr n2 (fun s q _ _ => hC _ _ (by omega) (by omega)) (fun a c _ _ => hM _ _ (by omega) (by omega))
    · exact h2.2.2.2.2.2.2.2.2.2.fr (hC _ _ (by omega) (by omega)) (fun k _ => hC _ _ (by omega) (by omega)) (fun k _ => hC _ _ (by omega) (by omega)) (hM _ _ (by omega) (by omega)) (fun k _ => hM _ _ (by omega) (by omega)) (fun k _ => hM _ _ (by omega) (by omega)) (fun k _ => hM _ _ (by omega) (by omega)) (fun k _ => hM _ _ (by omega) (by omega))
  · rw [hM 0 51 (by omega) (by omega)]; exact h3
theorem st_sheet (g : Gd T n C M J p q k v w) (hk : k = 3) (hP : PL x N la lb C M J) (hla : la ≤ p) (hlb : lb ≤ p) (d e : Nat) : Stm x T n 93 196 p C M J Jc d e := by
  have hb1 := xb1 (!x)
  have hy := tc_P4 (!x)
  have i51 : M 0 51 = nI (xb (!x)) := hP.2.2
  have hin : am_in (nI (xb (!x))) 2 := nI_in (by omega) (by omega)
  have cb : Int32.toNatClampNeg (nI (xb (!x))) = xb (!x) := nI_clamp (by omega)
  obtain ⟨C1, M1, J1, s, b1, b2, b3, b4, b5, b6, b7, b8⟩ := g.beg0 (Jc := Jc) (x := x) hk (d + 57) (e + 6)
  by_cases h8 : M1 0 8 = 0
  · obtain rfl := b7 h8
    obtain ⟨C2, M2, J2, u1, w1, r1a, r1b, r1c, r1d, r1e, r1f, r1g⟩ := Sy.num (Jc := Jc) (x := x) b6 (a := 1) (a' := 1) (b := 400) (l0 := 1) (hi := 400) rfl (by omega) (fun _ => ⟨rfl, rfl, by omega⟩) (d + 56) (e + 6)
    obtain ⟨C3, M3, J3, r2a, r2b, r2c, r2d, r2e, r2f, r2g⟩ := Sy.must (Jc := Jc) (x := x) r1f (j := 17) (by omega) (c := 126926692377445) (by decide) (d + 56) (e + 6)
    obtain ⟨C4, M4, J4, u3, w3, r3a, r3b, r3c, r3d, r3e, r3f, r3g⟩ := Sy.num (Jc := Jc) (x := x) r2f (a := 0) (a' := 0) (b := 9) (l0 := 0) (hi := 9) rfl (by omega) (fun _ => ⟨rfl, rfl, by omega⟩) (d + 56) (e + 6)
    have tfC : TF C C4 := b3.tr (r1c.tr (r2c.tr r3c))
    have mfM : MF M M4 := b4.tr (r1d.tr (r2d.tr r3d))
    have jfJ : JF J J4 := b5.tr (r1e.tr (r2e.tr r3e))
    have i51z : M4 0 51 = nI (xb (!x)) := (mfM 0 51 (by omega)).trans i51
    have cA : am_G (am_ev (d + 60)) 93 [.ref 1] (C, Jc, (tc_R x), tc_S, 289, 11479) = some (none, (am_u2 (am_u2 C4 (tc_P (!x)) 16 u1) (tc_P (!x)) 17 u3, Jc, (tc_R x), tc_S, 289, 11479)) := by
      refine (b93_0 _ _ _ _).trans ((congrArg (fun z => am_call z _) b1).trans ?_)
      rw [am_call_s, am_toN, b93_4]
      refine (congrArg (fun z => am_call z _) r1a).trans ?_
      rw [am_call_s, am_toL, b93_12]
      refine (congrArg (fun z => am_call z _) r2a).trans ?_
      rw [am_call_s, am_toN, b93_20]
      refine (congrArg (fun z => am_call z _) r3a).trans ?_
      rw [am_call_s, am_toL, b93_27]
    have mz : ∀ Z, am_ev (e + 10) 196 32 [.ref 0, .int w1, am_un] [.int w3] (M4, J4, tm_R, tm_S, 77, 21637) = Z → am_G (am_ev (e + 10)) 196 [.ref 0] (M, J, tm_R, tm_S, 77, 21637) = Z := by
      intro Z hZ
      refine (b196_0 _ _ _).trans ((congrArg (fun z => am_call z _) b2).trans ?_)
      rw [am_call_s, am_toL, b196_5, if_neg (by decide : ¬ (1 : Int32) = 0)]
      refine (congrArg (fun z => am_call z _) r1b).trans ?_
      rw [am_call_s, am_toL, b196_17]
      refine (congrArg (fun z => am_call z _) r2b).trans ?_
      rw [am_call_s, am_toN, b196_25]
      refine (congrArg (fun z => am_call z _) r3b).trans ?_
      rw [am_call_s, am_toL]
      exact hZ
    have rc : RC (!x) C (am_u2 (am_u2 C4 (tc_P (!x)) 16 u1) (tc_P (!x)) 17 u3) := ((tfC.rc (y := !x)).vv (by omega) u1).vv (by omega) u3
    have sC : Sy T n (p + 1) (am_u2 (am_u2 C4 (tc_P (!x)) 16 u1) (tc_P (!x)) 17 u3) M4 J4 := (r3f.uC (by omega) u1).uC (by omega) u3
    by_cases z8 : M4 0 8 = 0
    · have y3 := r3f.c7 z8
      obtain ⟨z3, m3, e3a, e3b, e3c, e3d⟩ := r3g y3
      have y2 := r2f.c7 z3
      have z2 := r2g y2
      have y1 := r1f.c7 z2
      obtain ⟨z1, m1, e1a, e1b, e1c, e1d⟩ := r1g y1
      refine ⟨_, am_u2 (am_u2 M4 30 (xb (!x)) w1) 31 (xb (!x)) w3, J4, cA, mz _ ?_, rc, ((mfM.rm (y := !x)).u (c := 30) (by omega) (by omega) (show 1 * _ ≤ _ by omega) (show _ < 1 * _ + 1 by omega) w1).u (c := 31) (by omega) (by omega) (show 1 * _ ≤ _ by omega) (show _ < 1 * _ + 1 by omega) w3, jfJ.rj, p + 1, by omega, (sC.uM (by omega) w1).uM (by omega) w3, fun _ => ⟨N, la, lb, ?_, by omega, by omega⟩⟩
      · have z0 : M4 0 8 ≤ 0 := by rw [z8]; decide
        (rw [b196_32, if_pos z0, i51z, if_pos hin, if_pos hin]; (try simp only [cb]))
      · refine hP.zz (fun a b h1 h2 => ?_) (fun a j h1 h2 => ?_) jfJ ?_
        · rw [fr1 (by omega), fr1 (by omega)]; exact tfC a b h1
        · rw [u2_c (by omega), u2_c (by omega)]; exact mfM a j h1
        · obtain ⟨a, b, c, dd, a1, a2, a3, a4, a5, a6, a7, a8, a9, a10, a11, a12, a13⟩ := hP.2.1.2.2.2.2.2.2.2.2.1
          refine ⟨m1, m3, c, dd, ?_, ?_, ?_, ?_, ?_, ?_, ?_, ?_, by omega, by omega, by omega, by omega, by omega⟩
          · rw [u2_p (by omega), u2_s]; exact e1a
          · rw [u2_s]; exact e3a
          · rw [u2_p (by omega), u2_p (by omega), tfC _ _ (by omega)]; exact a3
          · rw [u2_p (by omega), u2_p (by omega), tfC _ _ (by omega)]; exact a4
          · rw [u2_c (by omega), u2_s]; exact e1b
          · rw [u2_s]; exact e3b
          · rw [u2_c (by omega), u2_c (by omega), mfM _ _ (by omega)]; exact a7
          · rw [u2_c (by omega), u2_c (by omega), mfM _ _ (by omega)]; exact a8
    · obtain ⟨f, p0, f0, f5, _, h80, _⟩ := r3f.bdd z8
      refine ⟨_, M4, J4, cA, mz _ ?_, rc, mfM.rm, jfJ.rj, p + 1, by omega, sC, fun z => absurd z z8⟩
      rw [b196_32, h80, if_neg (nI_nle f0 (by omega))]
  · obtain ⟨rfl, bd1⟩ := b8 h8
    obtain ⟨D1, u1, t1a, t1b, t1c, t1d⟩ := bd1.tn (Jc := Jc) (x := x) 1 400 (d + 57)
    obtain ⟨D2, t2a, t2b, t2c, t2d⟩ := t1c.tk (Jc := Jc) (x := x) (c := 3) (by decide) 17 (d + 57)
    obtain ⟨D3, u3, t3a, t3b, t3c, t3d⟩ := t2c.tn (Jc := Jc) (x := x) 0 9 (d + 57)
    have tfD : TF C D3 := b3.tr (t1b.tr (t2b.tr t3b))
    refine ⟨am_u2 (am_u2 D3 (tc_P (!x)) 16 u1) (tc_P (!x)) 17 u3, M1, J1, ?_, ?_, ((tfD.rc (y := !x)).vv (by omega) u1).vv (by omega) u3, b4.rm, b5.rj, p + 1, by omega, ?_, fun z => absurd z h8⟩
    · refine (b93_0 _ _ _ _).trans ((congrArg (fun z => am_call z _) b1).trans ?_)
      rw [am_call_s, am_toN, b93_4]
      refine (congrArg (fun z => am_call z _) t1a).trans ?_
      rw [am_call_s, am_toL, b93_12]
      refine (congrArg (fun z => am_call z _) t2a).trans ?_
      rw [am_call_s, am_toN, b93_20]
      refine (congrArg (fun z => am_call z _) t3a).trans ?_
      rw [am_call_s, am_toL, b93_27]
    · refine (b196_0 _ _ _).trans ((congrArg (fun z => am_call z _) b2).trans ?_)
      rw [am_call_s, am_toL, b196_5, if_pos rfl]
    · have s0 : Sy T n (p + 1) D3 M1 J1 := ⟨g.1.1.tf tfD b4, g.1.2.2.2.2.2.fr (fun b => tfD 2 b (fun z => by omega)), Or.inr t3c⟩
      exact (s0.uC (by omega) u1).uC (by omega) u3
theorem st_rests (g : Gd T n C M J p q k v w) (hk : k = 3) (hP : PL x N la lb C M J) (hla : la ≤ p) (hlb : lb ≤ p) (d e : Nat) : Stm x T n 94 197 p C M J Jc d e := by
  have hb1 := xb1 (!x)
  have hy := tc_P4 (!x)
  have i51 : M 0 51 = nI (xb (!x)) := hP.2.2
  have hin : am_in (nI (xb (!x))) 2 := nI_in (by omega) (by omega)
  have cb : Int32.toNatClampNeg (nI (xb (!x))) = xb (!x) := nI_clamp (by omega)
  obtain ⟨C1, M1, J1, s, b1, b2, b3, b4, b5, b6, b7, b8⟩ := g.beg0 (Jc := Jc) (x := x) hk (d + 57) (e + 6)
  by_cases h8 : M1 0 8 = 0
  · obtain rfl := b7 h8
    obtain ⟨C2, M2, J2, u1, w1, r1a, r1b, r1c, r1d, r1e, r1f, r1g⟩ := Sy.num (Jc := Jc) (x := x) b6 (a := 0) (a' := 0) (b := 999) (l0 := 0) (hi := 999) rfl (by omega) (fun _ => ⟨rfl, rfl, by omega⟩) (d + 56) (e + 6)
    have hl : ∃ l0, (M2 0 8 = 0 → u1 = nI l0 ∧ w1 = nI l0 ∧ l0 ≤ 9999) := by
      by_cases z : M2 0 8 = 0
      · obtain ⟨_, m, e1, e2, e3, e4⟩ := r1g (r1f.c7 z)
        exact ⟨m, fun _ => ⟨e1, e2, by omega⟩⟩
      · exact ⟨0, fun y => absurd y z⟩
    obtain ⟨l0, hl⟩ := hl
    obtain ⟨C4, M4, J4, u3, w3, r3a, r3b, r3c, r3d, r3e, r3f, r3g⟩ := Sy.num (Jc := Jc) (x := x) r1f (a := u1) (a' := w1) (b := 999) (l0 := l0) (hi := 999) rfl (by omega) hl (d + 56) (e + 6)
    have tfC : TF C C4 := b3.tr (r1c.tr r3c)
    have mfM : MF M M4 := b4.tr (r1d.tr r3d)
    have jfJ : JF J J4 := b5.tr (r1e.tr r3e)
    have i51z : M4 0 51 = nI (xb (!x)) := (mfM 0 51 (by omega)).trans i51
    have cA : am_G (am_ev (d + 60)) 94 [.ref 1] (C, Jc, (tc_R x), tc_S, 289, 11479) = some (none, (am_u2 (am_u2 C4 (tc_P (!x)) 18 u1) (tc_P (!x)) 19 u3, Jc, (tc_R x), tc_S, 289, 11479)) := by
      refine (b94_0 _ _ _ _).trans ((congrArg (fun z => am_call z _) b1).trans ?_)
      rw [am_call_s, am_toN, b94_4]
      refine (congrArg (fun z => am_call z _) r1a).trans ?_
      rw [am_call_s, am_toL, b94_12]
      refine (congrArg (fun z => am_call z _) r3a).trans ?_
      rw [am_call_s, am_toL, b94_21]
    have mz : ∀ Z, am_ev (e + 10) 197 26 [.ref 0, .int w1, am_un] [.int w3] (M4, J4, tm_R, tm_S, 77, 21637) = Z → am_G (am_ev (e + 10)) 197 [.ref 0] (M, J, tm_R, tm_S, 77, 21637) = Z := by
      intro Z hZ
      refine (b197_0 _ _ _).trans ((congrArg (fun z => am_call z _) b2).trans ?_)
      rw [am_call_s, am_toL, b197_5, if_neg (by decide : ¬ (1 : Int32) = 0)]
      refine (congrArg (fun z => am_call z _) r1b).trans ?_
      rw [am_call_s, am_toL, b197_17]
      refine (congrArg (fun z => am_call z _) r3b).trans ?_
      rw [am_call_s, am_toL]
      exact hZ
    have rc : RC (!x) C (am_u2 (am_u2 C4 (tc_P (!x)) 18 u1) (tc_P (!x)) 19 u3) := ((tfC.rc (y := !x)).vv (by omega) u1).vv (by omega) u3
    have sC : Sy T n (p + 1) (am_u2 (am_u2 C4 (tc_P (!x)) 18 u1) (tc_P (!x)) 19 u3) M4 J4 := (r3f.uC (by omega) u1).uC (by omega) u3
    by_cases z8 : M4 0 8 = 0
    · have y3 := r3f.c7 z8
      obtain ⟨z3, m3, e3a, e3b, e3c, e3d⟩ := r3g y3
      have y1 := r1f.c7 z3
      obtain ⟨z1, m1, e1a, e1b, e1c, e1d⟩ := r1g y1
      refine ⟨_, am_u2 (am_u2 M4 32 (xb (!x)) w1) 33 (xb (!x)) w3, J4, cA, mz _ ?_, rc, ((mfM.rm (y := !x)).u (c := 32) (by omega) (by omega) (show 1 * _ ≤ _ by omega) (show _ < 1 * _ + 1 by omega) w1).u (c := 33) (by omega) (by omega) (show 1 * _ ≤ _ by omega) (show _ < 1 * _ + 1 by omega) w3, jfJ.rj, p + 1, by omega, (sC.uM (by omega) w1).uM (by omega) w3, fun _ => ⟨N, la, lb, ?_, by omega, by omega⟩⟩
      · have z0 : M4 0 8 ≤ 0 := by rw [z8]; decide
        (rw [b197_26, if_pos z0, i51z, if_pos hin, if_pos hin]; (try simp only [cb]))
      · refine hP.zz (fun a b h1 h2 => ?_) (fun a j h1 h2 => ?_) jfJ ?_
        · rw [fr1 (by omega), fr1 (by omega)]; exact tfC a b h1
        · rw [u2_c (by omega), u2_c (by omega)]; exact mfM a j h1
        · obtain ⟨a, b, c, dd, a1, a2, a3, a4, a5, a6, a7, a8, a9, a10, a11, a12, a13⟩ := hP.2.1.2.2.2.2.2.2.2.2.1
          refine ⟨a, b, m1, m3, ?_, ?_, ?_, ?_, ?_, ?_, ?_, ?_, by omega, by omega, by omega, by omega, by omega⟩
          · rw [u2_p (by omega), u2_p (by omega), tfC _ _ (by omega)]; exact a1
          · rw [u2_p (by omega), u2_p (by omega), tfC _ _ (by omega)]; exact a2
          · rw [u2_p (by omega), u2_s]; exact e1a
          · rw [u2_s]; exact e3a
          · rw [u2_c (by omega), u2_c (by omega), mfM _ _ (by omega)]; exact a5
          · rw [u2_c (by omega), u2_c (by omega), mfM _ _ (by omega)]; exact a6
          · rw [u2_c (by omega), u2_s]; exact e1b
          · rw [u2_s]; exact e3b
    · obtain ⟨f, p0, f0, f5, _, h80, _⟩ := r3f.bdd z8
      refine ⟨_, M4, J4, cA, mz _ ?_, rc, mfM.rm, jfJ.rj, p + 1, by omega, sC, fun z => absurd z z8⟩
      rw [b197_26, h80, if_neg (nI_nle f0 (by omega))]
  · obtain ⟨rfl, bd1⟩ := b8 h8
    obtain ⟨D1, u1, t1a, t1b, t1c, t1d⟩ := bd1.tn (Jc := Jc) (x := x) 0 999 (d + 57)
    obtain ⟨D3, u3, t3a, t3b, t3c, t3d⟩ := t1c.tn (Jc := Jc) (x := x) u1 999 (d + 57)
    have tfD : TF C D3 := b3.tr (t1b.tr t3b)
    refine ⟨am_u2 (am_u2 D3 (tc_P (!x)) 18 u1) (tc_P (!x)) 19 u3, M1, J1, ?_, ?_, ((tfD.rc (y := !x)).vv (by omega) u1).vv (by omega) u3, b4.rm, b5.rj, p + 1, by omega, ?_, fun z => absurd z h8⟩
    · refine (b94_0 _ _ _ _).trans ((congrArg (fun z => am_call z _) b1).trans ?_)
      rw [am_call_s, am_toN, b94_4]
      refine (congrArg (fun z => am_call z _) t1a).trans ?_
      rw [am_call_s, am_toL, b94_12]
      refine (congrArg (fun z => am_call z _) t3a).trans ?_
      rw [am_call_s, am_toL, b94_21]
    · refine (b197_0 _ _ _).trans ((congrArg (fun z => am_call z _) b2).trans ?_)
      rw [am_call_s, am_toL, b197_5, if_pos rfl]
    · have s0 : Sy T n (p + 1) D3 M1 J1 := ⟨g.1.1.tf tfD b4, g.1.2.2.2.2.2.fr (fun b => tfD 2 b (fun z => by omega)), Or.inr t3c⟩
      exact (s0.uC (by omega) u1).uC (by omega) u3
end SHT
