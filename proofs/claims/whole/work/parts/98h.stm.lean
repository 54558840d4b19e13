/-! STATEMENTS (printed by genst.py) -/
theorem orr {p q : Prop} (h : p → q) : ¬ p ∨ q := by
  by_cases z : p
  · exact Or.inr (h z)
  · exact Or.inl z
theorem jk_0 {q j : Nat} (h : q < 5) : jk q = 0 → j ≠ 7 := by
  intro e
  rcases q5 h with rfl | rfl | rfl | rfl | rfl <;> exact absurd e (by decide)
theorem jk_i {q r : Nat} (h : q < 5) (h2 : r < 5) (e : jk q = jk r) : q = r := by
  rcases q5 h with rfl | rfl | rfl | rfl | rfl <;> rcases q5 h2 with rfl | rfl | rfl | rfl | rfl <;> first | rfl | exact absurd e (by decide)
theorem cq9 {i : Nat} (h : i < 9) : 2 ≤ cqq i ∧ cqq i ∈ [2, 6, 11, 20, 22, 26, 34, 14, 18] ∧ ∀ j, j < 9 → i ≠ j → cqq i ≠ cqq j := by
  have key : ∀ i, i < 9 → 2 ≤ cqq i ∧ cqq i ∈ [2, 6, 11, 20, 22, 26, 34, 14, 18] ∧ ∀ j, j < 9 → i ≠ j → cqq i ≠ cqq j := by decide +kernel
  exact key i h
section STM
variable {T : Nat → Nat} {n lo p q k v la lb : Nat} {w : List Nat} {x y : Bool} {C M C' M' : tI} {J J' Jc : tJ} {N : Nat → Nat}
theorem RC.vv (h : RC y C C') {c k : Nat} (hc : tc_P y ≤ c ∧ c ≤ tc_P y + 36) (u : Int32) : RC y C (am_u2 C' c k u) := fun a b z1 z2 => by
  have e : a ≠ c := fun e => z2 (by rw [e]; exact hc)
  rw [u2_c e]; exact h a b z1 z2

theorem st_mix (g : Gd T n C M J p q k v w) (hk : k = 3) (hP : PL x N la lb C M J) (hla : la ≤ p) (hlb : lb ≤ p) (d e : Nat) : Stm x T n 85 187 p C M J Jc d e := by
  have hb1 := xb1 (!x)
  have hy := tc_P4 (!x)
  have nk : N 0 ≤ 6 := (hP.1 0 (by omega)).2.2
  have n2 : N 2 ≤ 6 := (hP.1 2 (by omega)).2.2
  have i51 : M 0 51 = nI (xb (!x)) := hP.2.2
  have hin : am_in (nI (xb (!x))) 2 := nI_in (by omega) (by omega)
  have cb : Int32.toNatClampNeg (nI (xb (!x))) = xb (!x) := nI_clamp (by omega)
  have kc1 : M 2 (xb (!x)) = nI (N 0) := (hP.1 0 (by omega)).2.1
  obtain ⟨C1, M1, J1, s, b1, b2, b3, b4, b5, b6, b7, b8⟩ := g.beg (Jc := Jc) hk hP (kd := 0) (by omega) (d + 56) (e + 6)
  have m0 : am_G (am_ev (e + 10)) 187 [.ref 0] (M, J, tm_R, tm_S, 77, 21637) = am_ev (e + 10) 187 23 [.ref 0, am_un] [.int s] (M1, J1, tm_R, tm_S, 77, 21637) := by
    (rw [b187_0, i51, if_pos hin]; (try simp only [cb]); rw [kc1])
    rcases b2 with ⟨z, b2⟩ | ⟨z, b2⟩
    · have z : N 0 = 6 := z
      rw [if_pos (by rw [z]; rfl), b2, am_call_s, am_toL]
    · have z : N 0 < 6 := z
      rw [if_neg (neR (c := 6) 6 rfl (by omega) (by omega) (by omega)), b2, am_call_s, am_toL]
  by_cases h8 : M1 0 8 = 0
  · obtain ⟨rfl, hlt0⟩ := b7 h8
    have hlt : N 0 < 6 := hlt0
    have i51a : M1 0 51 = nI (xb (!x)) := (b4 0 51 (by omega)).trans i51
    have kca : M1 2 (xb (!x)) = nI (N 0) := (b4 2 _ (by omega)).trans kc1
    have ix : (6 : Int32) * nI (xb (!x)) + nI (N 0) = nI (6 * xb (!x) + N 0) := nI_ix 6 _ _
    have ii : am_in (nI (6 * xb (!x) + N 0)) 12 := nI_in (by omega) (by omega)
    have ct : Int32.toNatClampNeg (nI (6 * xb (!x) + N 0)) = (6 * xb (!x) + N 0) := nI_clamp (by omega)
    have nm0 : Nm (!x) C1 M1 J1 := hP.nm.tf b3 b4 b5
    obtain ⟨C2, M2, J2, u1, w1, r1a, r1b, r1c, r1d, r1e, r1f, r1g⟩ := Sy.fresh (Jc := Jc) (x := x) b6 nm0 (d + 56) (e + 5)
    have nm1 : Nm (!x) C2 M2 J2 := nm0.tf r1c r1d r1e
    have s1 := r1f.uJ (c := 3) (i := (6 * xb (!x) + N 0)) (by omega) w1
    have cK : Int32.toNatClampNeg (M2 (kc 0) (xb (!x))) ≤ N 0 := by
      have e1 : M2 2 (xb (!x)) = nI (N 0) := by rw [r1d 2 _ (by omega), b4 2 _ (by omega)]; exact kc1
      have e2 : Int32.toNatClampNeg (M2 2 (xb (!x))) = N 0 := by rw [e1]; exact nI_clamp (by omega)
      exact Nat.le_of_eq e2
    have nm1s : Nm (!x) C2 M2 (am_u2 J2 3 (6 * xb (!x) + N 0) w1) := nm1.uJ (qd := 0) (i := N 0) (by omega) cK w1
    obtain ⟨C3, M3, J3, r2a, r2b, r2c, r2d, r2e, r2f, r2g⟩ := Sy.must (Jc := Jc) (x := x) s1 (j := 1) (by omega) (c := 1919512677) (by decide) (d + 56) (e + 6)
    have nm2 : Nm (!x) C3 M3 J3 := nm1s.tf r2c r2d r2e
    obtain ⟨C4, M4, J4, u3, w3, r3a, r3b, r3c, r3d, r3e, r3f, r3g⟩ := Sy.num (Jc := Jc) (x := x) r2f (a := 0) (a' := 0) (b := 999) (l0 := 0) (hi := 999) rfl (by omega) (fun _ => ⟨rfl, rfl, by omega⟩) (d + 56) (e + 6)
    have nm3 : Nm (!x) C4 M4 J4 := nm2.tf r3c r3d r3e
    have s3 := r3f.uM (c := 4) (i := (6 * xb (!x) + N 0)) (by omega) w3
    have nm3s := nm3.uM (c := 4) (i := (6 * xb (!x) + N 0)) (by omega) (by omega) (by omega) (by omega) (by omega) (by omega) (by omega) (by omega) (by omega) (by omega) w3
    obtain ⟨C5, M5, J5, r4a, r4b, r4c, r4d, r4e, r4f, r4g⟩ := Sy.must (Jc := Jc) (x := x) s3 (j := 2) (by omega) (c := 495873780837) (by decide) (d + 56) (e + 6)
    have nm4 : Nm (!x) C5 M5 J5 := nm3s.tf r4c r4d r4e
    have hl : ∃ l0, (M5 0 8 = 0 → u3 = nI l0 ∧ M5 4 (6 * xb (!x) + N 0) = nI l0 ∧ l0 ≤ 9999) := by
      by_cases z : M5 0 8 = 0
      · have y4 := r4f.c7 z
        have z4 := r4g y4
        have z4 : M4 0 8 = 0 := (u2_c (by omega)).symm.trans z4
        have y3 := r3f.c7 z4
        obtain ⟨_, m, e1, e2, e3, e4⟩ := r3g y3
        refine ⟨m, fun _ => ⟨e1, ?_, by omega⟩⟩
        rw [r4d 4 _ (by omega), u2_s, e2]
      · exact ⟨0, fun y => absurd y z⟩
    obtain ⟨l0, hl⟩ := hl
    obtain ⟨C6, M6, J6, u5, w5, r5a, r5b, r5c, r5d, r5e, r5f, r5g⟩ := Sy.num (Jc := Jc) (x := x) r4f (a := u3) (a' := M5 4 (6 * xb (!x) + N 0)) (b := 999) (l0 := l0) (hi := 999) rfl (by omega) hl (d + 56) (e + 6)
    have nm5 : Nm (!x) C6 M6 J6 := nm4.tf r5c r5d r5e
    have tfC : TF C C6 := (((((b3.tr r1c).tr r2c).tr r3c).tr r4c).tr r5c)
    have fM : ∀ a j, (a = 0 → j < 3 ∨ 9 < j) → ¬ (a = 4 ∧ j = (6 * xb (!x) + N 0)) → M6 a j = M a j := fun a j h0 h1 => by rw [r5d a j h0, r4d a j h0, fr1 (orr (fun z1 z2 => h1 ⟨z1, z2⟩)), r3d a j h0, r2d a j h0, r1d a j h0, b4 a j h0]
    have fJ : ∀ a j, (a = 0 → j ≠ 7) → ¬ (a = 3 ∧ j = (6 * xb (!x) + N 0)) → J6 a j = J a j := fun a j h0 q1 => by rw [r5e a j h0, r4e a j h0, r3e a j h0, r2e a j h0, fr1J (orr (fun z1 z2 => q1 ⟨z1, z2⟩)), r1e a j h0, b5 a j h0]
    have i51z : M6 0 51 = nI (xb (!x)) := (fM 0 51 (by omega) (by omega)).trans i51
    have kcz : M6 2 (xb (!x)) = nI (N 0) := (fM 2 _ (by omega) (by omega)).trans kc1
    have cN : C (tc_P (!x) + 1) 0 = nI (N 0) := (hP.1 0 (by omega)).1
    have cNz : C6 (tc_P (!x) + 1) 0 = nI (N 0) := (tfC _ _ (by omega)).trans cN
    have cs : Int32.toNatClampNeg (nI (N 0)) = N 0 := nI_clamp (by omega)
    have hs : am_in (nI (N 0)) 6 := nI_in (by omega) (by omega)
    have cc : ∀ Z, am_ev (d + 60) 85 39 [.ref 1, .int u1, .int u3, am_un, am_un] [.int u5] (C6, Jc, (tc_R x), tc_S, 289, 11479) = Z → am_G (am_ev (d + 60)) 85 [.ref 1] (C, Jc, (tc_R x), tc_S, 289, 11479) = Z := by
      intro Z hZ
      refine (b85_0 _ _ _ _).trans ((congrArg (fun z => am_call z _) b1).trans ?_)
      rw [am_call_s, am_toN, b85_5]
      refine (congrArg (fun z => am_call z _) r1a).trans ?_
      rw [am_call_s, am_toL, b85_9]
      refine (congrArg (fun z => am_call z _) r2a).trans ?_
      rw [am_call_s, am_toN, b85_16]
      refine (congrArg (fun z => am_call z _) r3a).trans ?_
      rw [am_call_s, am_toL, b85_24]
      refine (congrArg (fun z => am_call z _) r4a).trans ?_
      rw [am_call_s, am_toN, b85_31]
      refine (congrArg (fun z => am_call z _) r5a).trans ?_
      rw [am_call_s, am_toL]
      exact hZ
    have mz : ∀ Z, am_ev (e + 10) 187 101 [.ref 0, .int (nI (6 * xb (!x) + N 0))] [.int w5, .int (nI (6 * xb (!x) + N 0)), .ref 5] (M6, J6, tm_R, tm_S, 77, 21637) = Z → am_G (am_ev (e + 10)) 187 [.ref 0] (M, J, tm_R, tm_S, 77, 21637) = Z := by
      intro Z hZ
      (rw [m0, b187_23, if_neg (by decide : ¬ (1 : Int32) = 0), i51a, if_pos hin]; (try simp only [cb]); rw [kca, ix])
      refine (congrArg (fun z => am_call z _) r1b).trans ?_
      (rw [am_call_s, am_toL, b187_54, if_pos ii]; (try simp only [ct]))
      refine (congrArg (fun z => am_call z _) r2b).trans ?_
      rw [am_call_s, am_toN, b187_62]
      refine (congrArg (fun z => am_call z _) r3b).trans ?_
      (rw [am_call_s, am_toL, b187_75, if_pos ii]; (try simp only [ct]))
      refine (congrArg (fun z => am_call z _) r4b).trans ?_
      (rw [am_call_s, am_toN, b187_83, if_pos ii]; (try simp only [ct]))
      refine (congrArg (fun z => am_call z _) r5b).trans ?_
      rw [am_call_s, am_toL]
      exact hZ
    have cA : C6 1 7 = 0 → am_G (am_ev (d + 60)) 85 [.ref 1] (C, Jc, (tc_R x), tc_S, 289, 11479) = some (none, ((am_u2 (am_u2 (am_u2 (am_u2 C6 (tc_P (!x) + 3 + 0) (N 0) u1) (tc_P (!x) + 1) 0 (nI (N 0 + 1))) (tc_P (!x) + 8) (N 0) u3) (tc_P (!x) + 9) (N 0) u5), Jc, (tc_R x), tc_S, 289, 11479)) := fun z => cc _ (by
      rw [b85_39, if_pos z]
      refine (congrArg (fun z => am_call z _) (c_add (Jc := Jc) (x := x) (qd := 0) (by omega) cNz (by omega) u1 (d + 58))).trans ?_
      (rw [am_call_s, am_toL, b85_56, if_pos hs, if_pos hs]; (try simp only [cs])))
    by_cases z8 : M6 0 8 = 0
    · have c7 := r5f.c7 z8
      have y5 := c7
      obtain ⟨z5, m5, e5a, e5b, e5c, e5d⟩ := r5g y5
      have y4 := r4f.c7 z5
      have z4 := r4g y4
      have z4 : M4 0 8 = 0 := (u2_c (by omega)).symm.trans z4
      have y3 := r3f.c7 z4
      obtain ⟨z3, m3, e3a, e3b, e3c, e3d⟩ := r3g y3
      have y2 := r2f.c7 z3
      have z2 := r2g y2
      have z2 : M2 0 8 = 0 := (rfl).symm.trans z2
      have y1 := r1f.c7 z2
      obtain ⟨z1, nmr⟩ := r1g y1
      have mA : am_G (am_ev (e + 10)) 187 [.ref 0] (M, J, tm_R, tm_S, 77, 21637) = some (none, ((am_u2 (am_u2 M6 5 (6 * xb (!x) + N 0) w5) 2 (xb (!x)) (nI (N 0 + 1))), J6, tm_R, tm_S, 77, 21637)) := mz _ (by
        (rw [b187_101, if_pos ii, if_pos z8, i51z, if_pos hin, if_pos hin]; (try simp only [ct]); (try simp only [cb]); rw [kcz, nI_1]))
      have rmA : RM (!x) M (am_u2 (am_u2 M6 5 (6 * xb (!x) + N 0) w5) 2 (xb (!x)) (nI (N 0 + 1))) := ((((((((b4.rm (y := !x)).tr r1d.rm).tr r2d.rm).tr r3d.rm).u (c := 4) (i := (6 * xb (!x) + N 0)) (by omega) (by omega) (show 6 * xb (!x) ≤ _ by omega) (show _ < 6 * xb (!x) + 6 by omega) w3).tr r4d.rm).tr r5d.rm).u (c := 5) (i := (6 * xb (!x) + N 0)) (by omega) (by omega) (show 6 * xb (!x) ≤ _ by omega) (show _ < 6 * xb (!x) + 6 by omega) w5).u (c := 2) (i := xb (!x)) (by omega) (by omega) (show 1 * xb (!x) ≤ _ by omega) (show _ < 1 * xb (!x) + 1 by omega) _
      refine ⟨(am_u2 (am_u2 (am_u2 (am_u2 C6 (tc_P (!x) + 3 + 0) (N 0) u1) (tc_P (!x) + 1) 0 (nI (N 0 + 1))) (tc_P (!x) + 8) (N 0) u3) (tc_P (!x) + 9) (N 0) u5), (am_u2 (am_u2 M6 5 (6 * xb (!x) + N 0) w5) 2 (xb (!x)) (nI (N 0 + 1))), J6, cA c7, mA, ((((tfC.rc (y := !x)).vv (c := tc_P (!x) + 3 + 0) (k := N 0) (by omega) u1).vv (c := tc_P (!x) + 1) (k := 0) (by omega) (nI (N 0 + 1))).vv (c := tc_P (!x) + 8) (k := N 0) (by omega) u3).vv (c := tc_P (!x) + 9) (k := N 0) (by omega) u5, rmA, ((((((b5.rj (y := !x)).tr r1e.rj).u (c := 3) (i := (6 * xb (!x) + N 0)) (by omega) (by omega) (show 6 * xb (!x) ≤ _ by omega) (show _ < 6 * xb (!x) + 6 by omega) w1).tr r2e.rj).tr r3e.rj).tr r4e.rj).tr r5e.rj, p + 1, by omega, ?_, fun _ => ⟨upN N 0, la, lb, ⟨?_, ?_, ?_⟩, by omega, by omega⟩⟩
      · exact ((((((r5f.uM (c := 5) (i := (6 * xb (!x) + N 0)) (by omega) w5).uM (c := 2) (i := xb (!x)) (by omega) (nI (N 0 + 1))).uC (c := tc_P (!x) + 3 + 0) (i := N 0) (by omega) u1).uC (c := tc_P (!x) + 1) (i := 0) (by omega) (nI (N 0 + 1))).uC (c := tc_P (!x) + 8) (i := N 0) (by omega) u3).uC (c := tc_P (!x) + 9) (i := N 0) (by omega) u5)
      · refine hP.1.up (by omega) hlt0 (fun i hi => ?_) (fun i hi => ?_)
        · have t0 : C6 (tc_P (!x) + 1) i = C (tc_P (!x) + 1) i := tfC _ _ (by omega)
          by_cases zi : i = 0
          · rw [u2_c (by omega), u2_c (by omega), u2_e rfl zi, if_pos zi]
          · rw [u2_c (by omega), u2_c (by omega), u2_p zi, u2_c (by omega), if_neg zi, t0]
        · have t0 : ∀ c, 2 ≤ c → (c ≠ 4 ∧ c ≠ 5) → (am_u2 M6 5 (6 * xb (!x) + N 0) w5) c (xb (!x)) = M c (xb (!x)) := fun c hc h => by
            rw [u2_c (by omega)]; exact fM c _ (by omega) (by omega)
          have c9 := cq9 hi
          by_cases zi : i = 0
          · subst zi
            rw [if_pos rfl]; exact u2_s
          · rw [if_neg zi, u2_c (show cqq i ≠ 2 from c9.2.2 0 (by omega) zi)]
            exact t0 _ c9.1 (by first | trivial | (have := c9.2.1; simp only [List.mem_cons, List.not_mem_nil, or_false] at this; omega))
      · refine PG.up (PG.fr hP.2.1 n2 (fun o k ho hk => ?_) (fun a k ha1 ha2 hk => ?_) ?_ (fun q k hq hk => ?_)) (by omega) ?_ ?_ (fun z => by omega) (fun z => by omega) (fun z => by omega) (fun z => by omega)
        · have t0 : C6 (tc_P (!x) + o) k = C (tc_P (!x) + o) k := tfC _ _ (by omega)
          by_cases z1 : o = 1
          · subst z1; exact absurd hk (Nat.not_lt_zero _)
          have key : (o = 3 ∨ o = 8 ∨ o = 9) → k < N 0 := by
            rintro (rfl | rfl | rfl) <;> exact hk
          rw [fr1 (orr (fun z2 z3 => by have := key (by omega); omega)), fr1 (orr (fun z2 z3 => by have := key (by omega); omega)), fr1 (Or.inl (by omega)), fr1 (orr (fun z2 z3 => by have := key (by omega); omega))]; exact t0
        · by_cases z1 : a = 2
          · subst z1; exact absurd hk (Nat.not_lt_zero _)
          have key : ∀ b, b = sdd a * xb (!x) + k → ¬ (a = 4 ∧ b = (6 * xb (!x) + N 0)) ∧ ¬ (a = 5 ∧ b = (6 * xb (!x) + N 0)) := by
            intro b hb
            refine ⟨?_, ?_⟩ <;> (rintro ⟨rfl, e2⟩; have hk : k < N 0 := hk; have hb : b = 6 * xb (!x) + k := hb; omega)
          rw [u2_c z1, fr1 (orr (fun z2 z3 => ((key _ rfl).2) ⟨z2, z3⟩)), fM a _ (by omega) ((key _ rfl).1)]
        · rw [u2_c (by omega), u2_c (by omega)]; exact fM 0 50 (by omega) (by omega)
        · have key : ¬ (jk q = 3 ∧ kx q * xb (!x) + k = (6 * xb (!x) + N 0)) := by
            rintro ⟨e1, e2⟩
            have e3 := jk_i hq (show 0 < 5 by omega) e1
            subst e3
            have e2 : 6 * xb (!x) + k = 6 * xb (!x) + N 0 := e2
            omega
          exact fJ _ _ (jk_0 hq) key
        · intro _
          rw [u2_c (by omega), u2_c (by omega), u2_c (by omega), u2_s]
          have e1 : J6 (jk 0) (kx 0 * xb (!x) + N 0) = w1 := by
            show J6 3 (6 * xb (!x) + N 0) = w1
            rw [r5e 3 _ (by omega), r4e 3 _ (by omega), r3e 3 _ (by omega), r2e 3 _ (by omega), u2_s]
          rw [e1]; exact nmr
        · intro _
          refine ⟨m3, m5, ?_, ?_, ?_, ?_, by obtain ⟨h1, _⟩ := hl z5; have h2 := e3a.symm.trans h1; have h3 := (nI_eq (by omega) (by have := (hl z5).2.2; omega)).mp h2; omega, by omega⟩
          · rw [u2_c (by omega), u2_s]; exact e3a
          · rw [u2_s]; exact e5a
          · rw [u2_c (by omega), u2_c (by omega), r5d 4 _ (by omega), r4d 4 _ (by omega), u2_s]; exact e3b
          · rw [u2_c (by omega), u2_s]; exact e5b
      · rw [u2_c (by omega), u2_c (by omega)]; exact i51z
    · have mB : am_G (am_ev (e + 10)) 187 [.ref 0] (M, J, tm_R, tm_S, 77, 21637) = some (none, ((am_u2 M6 5 (6 * xb (!x) + N 0) w5), J6, tm_R, tm_S, 77, 21637)) := mz _ (by
        (rw [b187_101, if_pos ii, if_neg z8]; (try simp only [ct])))
      have n8 : ¬ (am_u2 M6 5 (6 * xb (!x) + N 0) w5) 0 8 = 0 := fun z => z8 ((u2_c (by omega)).symm.trans z)
      by_cases c7 : C6 1 7 = 0
      · exact ⟨(am_u2 (am_u2 (am_u2 (am_u2 C6 (tc_P (!x) + 3 + 0) (N 0) u1) (tc_P (!x) + 1) 0 (nI (N 0 + 1))) (tc_P (!x) + 8) (N 0) u3) (tc_P (!x) + 9) (N 0) u5), (am_u2 M6 5 (6 * xb (!x) + N 0) w5), J6, cA c7, mB, ((((tfC.rc (y := !x)).vv (c := tc_P (!x) + 3 + 0) (k := N 0) (by omega) u1).vv (c := tc_P (!x) + 1) (k := 0) (by omega) (nI (N 0 + 1))).vv (c := tc_P (!x) + 8) (k := N 0) (by omega) u3).vv (c := tc_P (!x) + 9) (k := N 0) (by omega) u5, (((((((b4.rm (y := !x)).tr r1d.rm).tr r2d.rm).tr r3d.rm).u (c := 4) (i := (6 * xb (!x) + N 0)) (by omega) (by omega) (show 6 * xb (!x) ≤ _ by omega) (show _ < 6 * xb (!x) + 6 by omega) w3).tr r4d.rm).tr r5d.rm).u (c := 5) (i := (6 * xb (!x) + N 0)) (by omega) (by omega) (show 6 * xb (!x) ≤ _ by omega) (show _ < 6 * xb (!x) + 6 by omega) w5, ((((((b5.rj (y := !x)).tr r1e.rj).u (c := 3) (i := (6 * xb (!x) + N 0)) (by omega) (by omega) (show 6 * xb (!x) ≤ _ by omega) (show _ < 6 * xb (!x) + 6 by omega) w1).tr r2e.rj).tr r3e.rj).tr r4e.rj).tr r5e.rj, p + 1, by omega, (((((r5f.uM (c := 5) (i := (6 * xb (!x) + N 0)) (by omega) w5).uC (c := tc_P (!x) + 3 + 0) (i := N 0) (by omega) u1).uC (c := tc_P (!x) + 1) (i := 0) (by omega) (nI (N 0 + 1))).uC (c := tc_P (!x) + 8) (i := N 0) (by omega) u3).uC (c := tc_P (!x) + 9) (i := N 0) (by omega) u5), fun z => absurd z n8⟩
      · exact ⟨C6, (am_u2 M6 5 (6 * xb (!x) + N 0) w5), J6, cc _ (by rw [b85_39, if_neg c7]), mB, tfC.rc, (((((((b4.rm (y := !x)).tr r1d.rm).tr r2d.rm).tr r3d.rm).u (c := 4) (i := (6 * xb (!x) + N 0)) (by omega) (by omega) (show 6 * xb (!x) ≤ _ by omega) (show _ < 6 * xb (!x) + 6 by omega) w3).tr r4d.rm).tr r5d.rm).u (c := 5) (i := (6 * xb (!x) + N 0)) (by omega) (by omega) (show 6 * xb (!x) ≤ _ by omega) (show _ < 6 * xb (!x) + 6 by omega) w5, ((((((b5.rj (y := !x)).tr r1e.rj).u (c := 3) (i := (6 * xb (!x) + N 0)) (by omega) (by omega) (show 6 * xb (!x) ≤ _ by omega) (show _ < 6 * xb (!x) + 6 by omega) w1).tr r2e.rj).tr r3e.rj).tr r4e.rj).tr r5e.rj, p + 1, by omega, (r5f.uM (c := 5) (i := (6 * xb (!x) + N 0)) (by omega) w5), fun z => absurd z n8⟩
  · obtain ⟨rfl, bd1⟩ := b8 h8
    obtain ⟨D1, u1, t1a, t1b, t1c, t1d⟩ := bd1.nn (Jc := Jc) (x := x) (d + 57)
    obtain ⟨D2, t2a, t2b, t2c, t2d⟩ := t1c.tk (Jc := Jc) (x := x) (c := 3) (by decide) 1 (d + 57)
    obtain ⟨D3, u3, t3a, t3b, t3c, t3d⟩ := t2c.tn (Jc := Jc) (x := x) 0 999 (d + 57)
    obtain ⟨D4, t4a, t4b, t4c, t4d⟩ := t3c.tk (Jc := Jc) (x := x) (c := 3) (by decide) 2 (d + 57)
    obtain ⟨D5, u5, t5a, t5b, t5c, t5d⟩ := t4c.tn (Jc := Jc) (x := x) u3 999 (d + 57)
    have tfD : TF C D5 := (((((b3.tr t1b).tr t2b).tr t3b).tr t4b).tr t5b)
    refine ⟨D5, M1, J1, ?_, ?_, tfD.rc, b4.rm, b5.rj, p + 1, by omega, ⟨g.1.1.tf tfD b4, g.1.2.2.2.2.2.fr (fun b => tfD 2 b (fun z => by omega)), Or.inr t5c⟩, fun z => absurd z h8⟩
    · refine (b85_0 _ _ _ _).trans ((congrArg (fun z => am_call z _) b1).trans ?_)
      rw [am_call_s, am_toN, b85_5]
      refine (congrArg (fun z => am_call z _) t1a).trans ?_
      rw [am_call_s, am_toL, b85_9]
      refine (congrArg (fun z => am_call z _) t2a).trans ?_
      rw [am_call_s, am_toN, b85_16]
      refine (congrArg (fun z => am_call z _) t3a).trans ?_
      rw [am_call_s, am_toL, b85_24]
      refine (congrArg (fun z => am_call z _) t4a).trans ?_
      rw [am_call_s, am_toN, b85_31]
      refine (congrArg (fun z => am_call z _) t5a).trans ?_
      rw [am_call_s, am_toL, b85_39, if_neg t5d]
    · rw [m0, b187_23, if_pos rfl]
theorem st_part (g : Gd T n C M J p q k v w) (hk : k = 3) (hP : PL x N la lb C M J) (hla : la ≤ p) (hlb : lb ≤ p) (d e : Nat) : Stm x T n 86 188 p C M J Jc d e := by
  have hb1 := xb1 (!x)
  have hy := tc_P4 (!x)
  have nk : N 1 ≤ 8 := (hP.1 1 (by omega)).2.2
  have n2 : N 2 ≤ 6 := (hP.1 2 (by omega)).2.2
  have i51 : M 0 51 = nI (xb (!x)) := hP.2.2
  have hin : am_in (nI (xb (!x))) 2 := nI_in (by omega) (by omega)
  have cb : Int32.toNatClampNeg (nI (xb (!x))) = xb (!x) := nI_clamp (by omega)
  have kc1 : M 6 (xb (!x)) = nI (N 1) := (hP.1 1 (by omega)).2.1
  obtain ⟨C1, M1, J1, s, b1, b2, b3, b4, b5, b6, b7, b8⟩ := g.beg (Jc := Jc) hk hP (kd := 1) (by omega) (d + 56) (e + 6)
  have m0 : am_G (am_ev (e + 10)) 188 [.ref 0] (M, J, tm_R, tm_S, 77, 21637) = am_ev (e + 10) 188 23 [.ref 0, am_un] [.int s] (M1, J1, tm_R, tm_S, 77, 21637) := by
    (rw [b188_0, i51, if_pos hin]; (try simp only [cb]); rw [kc1])
    rcases b2 with ⟨z, b2⟩ | ⟨z, b2⟩
    · have z : N 1 = 8 := z
      rw [if_pos (by rw [z]; rfl), b2, am_call_s, am_toL]
    · have z : N 1 < 8 := z
      rw [if_neg (neR (c := 8) 8 rfl (by omega) (by omega) (by omega)), b2, am_call_s, am_toL]
  by_cases h8 : M1 0 8 = 0
  · obtain ⟨rfl, hlt0⟩ := b7 h8
    have hlt : N 1 < 8 := hlt0
    have i51a : M1 0 51 = nI (xb (!x)) := (b4 0 51 (by omega)).trans i51
    have kca : M1 6 (xb (!x)) = nI (N 1) := (b4 6 _ (by omega)).trans kc1
    have ix : (8 : Int32) * nI (xb (!x)) + nI (N 1) = nI (8 * xb (!x) + N 1) := nI_ix 8 _ _
    have ii : am_in (nI (8 * xb (!x) + N 1)) 16 := nI_in (by omega) (by omega)
    have ct : Int32.toNatClampNeg (nI (8 * xb (!x) + N 1)) = (8 * xb (!x) + N 1) := nI_clamp (by omega)
    have nm0 : Nm (!x) C1 M1 J1 := hP.nm.tf b3 b4 b5
    obtain ⟨C2, M2, J2, u1, w1, r1a, r1b, r1c, r1d, r1e, r1f, r1g⟩ := Sy.fresh (Jc := Jc) (x := x) b6 nm0 (d + 56) (e + 5)
    have nm1 : Nm (!x) C2 M2 J2 := nm0.tf r1c r1d r1e
    have s1 := r1f.uJ (c := 7) (i := (8 * xb (!x) + N 1)) (by omega) w1
    have cK : Int32.toNatClampNeg (M2 (kc 1) (xb (!x))) ≤ N 1 := by
      have e1 : M2 6 (xb (!x)) = nI (N 1) := by rw [r1d 6 _ (by omega), b4 6 _ (by omega)]; exact kc1
      have e2 : Int32.toNatClampNeg (M2 6 (xb (!x))) = N 1 := by rw [e1]; exact nI_clamp (by omega)
      exact Nat.le_of_eq e2
    have nm1s : Nm (!x) C2 M2 (am_u2 J2 7 (8 * xb (!x) + N 1) w1) := nm1.uJ (qd := 1) (i := N 1) (by omega) cK w1
    obtain ⟨C3, M3, J3, r2a, r2b, r2c, r2d, r2e, r2f, r2g⟩ := Sy.must (Jc := Jc) (x := x) s1 (j := 4) (by omega) (c := 28518) (by decide) (d + 56) (e + 6)
    have nm2 : Nm (!x) C3 M3 J3 := nm1s.tf r2c r2d r2e
    obtain ⟨C4, M4, J4, u3, w3, r3a, r3b, r3c, r3d, r3e, r3f, r3g⟩ := Sy.asked (Jc := Jc) (x := x) r2f nm2 (kd := 0) (by omega) (d + 56) (e + 6)
    have nm3 : Nm (!x) C4 M4 J4 := nm2.tf r3c r3d r3e
    have s3 := r3f.uM (c := 8) (i := (8 * xb (!x) + N 1)) (by omega) w3
    have nm3s := nm3.uM (c := 8) (i := (8 * xb (!x) + N 1)) (by omega) (by omega) (by omega) (by omega) (by omega) (by omega) (by omega) (by omega) (by omega) (by omega) w3
    obtain ⟨C5, M5, J5, r4a, r4b, r4c, r4d, r4e, r4f, r4g⟩ := Sy.must (Jc := Jc) (x := x) s3 (j := 5) (by omega) (c := 499850634611) (by decide) (d + 56) (e + 6)
    have nm4 : Nm (!x) C5 M5 J5 := nm3s.tf r4c r4d r4e
    obtain ⟨C6, M6, J6, u5, w5, r5a, r5b, r5c, r5d, r5e, r5f, r5g⟩ := Sy.num (Jc := Jc) (x := x) r4f (a := 1) (a' := 1) (b := 99) (l0 := 1) (hi := 99) rfl (by omega) (fun _ => ⟨rfl, rfl, by omega⟩) (d + 56) (e + 6)
    have nm5 : Nm (!x) C6 M6 J6 := nm4.tf r5c r5d r5e
    have s5 := r5f.uM (c := 9) (i := (8 * xb (!x) + N 1)) (by omega) w5
    have nm5s := nm5.uM (c := 9) (i := (8 * xb (!x) + N 1)) (by omega) (by omega) (by omega) (by omega) (by omega) (by omega) (by omega) (by omega) (by omega) (by omega) w5
    obtain ⟨C7, M7, J7, r6a, r6b, r6c, r6d, r6e, r6f, r6g⟩ := Sy.must (Jc := Jc) (x := x) s5 (j := 6) (by omega) (c := 2003395685) (by decide) (d + 56) (e + 6)
    have nm6 : Nm (!x) C7 M7 J7 := nm5s.tf r6c r6d r6e
    obtain ⟨C8, M8, J8, u7, w7, r7a, r7b, r7c, r7d, r7e, r7f, r7g⟩ := Sy.num (Jc := Jc) (x := x) r6f (a := 1) (a' := 1) (b := 99) (l0 := 1) (hi := 99) rfl (by omega) (fun _ => ⟨rfl, rfl, by omega⟩) (d + 56) (e + 6)
    have nm7 : Nm (!x) C8 M8 J8 := nm6.tf r7c r7d r7e
    have tfC : TF C C8 := (((((((b3.tr r1c).tr r2c).tr r3c).tr r4c).tr r5c).tr r6c).tr r7c)
    have fM : ∀ a j, (a = 0 → j < 3 ∨ 9 < j) → ¬ (a = 8 ∧ j = (8 * xb (!x) + N 1)) → ¬ (a = 9 ∧ j = (8 * xb (!x) + N 1)) → M8 a j = M a j := fun a j h0 h1 h2 => by rw [r7d a j h0, r6d a j h0, fr1 (orr (fun z1 z2 => h2 ⟨z1, z2⟩)), r5d a j h0, r4d a j h0, fr1 (orr (fun z1 z2 => h1 ⟨z1, z2⟩)), r3d a j h0, r2d a j h0, r1d a j h0, b4 a j h0]
    have fJ : ∀ a j, (a = 0 → j ≠ 7) → ¬ (a = 7 ∧ j = (8 * xb (!x) + N 1)) → J8 a j = J a j := fun a j h0 q1 => by rw [r7e a j h0, r6e a j h0, r5e a j h0, r4e a j h0, r3e a j h0, r2e a j h0, fr1J (orr (fun z1 z2 => q1 ⟨z1, z2⟩)), r1e a j h0, b5 a j h0]
    have i51z : M8 0 51 = nI (xb (!x)) := (fM 0 51 (by omega) (by omega) (by omega)).trans i51
    have kcz : M8 6 (xb (!x)) = nI (N 1) := (fM 6 _ (by omega) (by omega) (by omega)).trans kc1
    have cN : C (tc_P (!x) + 1) 1 = nI (N 1) := (hP.1 1 (by omega)).1
    have cNz : C8 (tc_P (!x) + 1) 1 = nI (N 1) := (tfC _ _ (by omega)).trans cN
    have cs : Int32.toNatClampNeg (nI (N 1)) = N 1 := nI_clamp (by omega)
    have hs : am_in (nI (N 1)) 8 := nI_in (by omega) (by omega)
    have cc : ∀ Z, am_ev (d + 60) 86 50 [.ref 1, .int u1, .int u3, .int u5, am_un, am_un] [.int u7] (C8, Jc, (tc_R x), tc_S, 289, 11479) = Z → am_G (am_ev (d + 60)) 86 [.ref 1] (C, Jc, (tc_R x), tc_S, 289, 11479) = Z := by
      intro Z hZ
      refine (b86_0 _ _ _ _).trans ((congrArg (fun z => am_call z _) b1).trans ?_)
      rw [am_call_s, am_toN, b86_5]
      refine (congrArg (fun z => am_call z _) r1a).trans ?_
      rw [am_call_s, am_toL, b86_9]
      refine (congrArg (fun z => am_call z _) r2a).trans ?_
      rw [am_call_s, am_toN, b86_16]
      refine (congrArg (fun z => am_call z _) r3a).trans ?_
      rw [am_call_s, am_toL, b86_21]
      refine (congrArg (fun z => am_call z _) r4a).trans ?_
      rw [am_call_s, am_toN, b86_28]
      refine (congrArg (fun z => am_call z _) r5a).trans ?_
      rw [am_call_s, am_toL, b86_35]
      refine (congrArg (fun z => am_call z _) r6a).trans ?_
      rw [am_call_s, am_toN, b86_43]
      refine (congrArg (fun z => am_call z _) r7a).trans ?_
      rw [am_call_s, am_toL]
      exact hZ
    have mz : ∀ Z, am_ev (e + 10) 188 112 [.ref 0, .int (nI (8 * xb (!x) + N 1))] [.int w7, .int (nI (8 * xb (!x) + N 1)), .ref 10] (M8, J8, tm_R, tm_S, 77, 21637) = Z → am_G (am_ev (e + 10)) 188 [.ref 0] (M, J, tm_R, tm_S, 77, 21637) = Z := by
      intro Z hZ
      (rw [m0, b188_23, if_neg (by decide : ¬ (1 : Int32) = 0), i51a, if_pos hin]; (try simp only [cb]); rw [kca, ix])
      refine (congrArg (fun z => am_call z _) r1b).trans ?_
      (rw [am_call_s, am_toL, b188_54, if_pos ii]; (try simp only [ct]))
      refine (congrArg (fun z => am_call z _) r2b).trans ?_
      rw [am_call_s, am_toN, b188_62]
      refine (congrArg (fun z => am_call z _) r3b).trans ?_
      (rw [am_call_s, am_toL, b188_72, if_pos ii]; (try simp only [ct]))
      refine (congrArg (fun z => am_call z _) r4b).trans ?_
      rw [am_call_s, am_toN, b188_80]
      refine (congrArg (fun z => am_call z _) r5b).trans ?_
      (rw [am_call_s, am_toL, b188_92, if_pos ii]; (try simp only [ct]))
      refine (congrArg (fun z => am_call z _) r6b).trans ?_
      rw [am_call_s, am_toN, b188_100]
      refine (congrArg (fun z => am_call z _) r7b).trans ?_
      rw [am_call_s, am_toL]
      exact hZ
    have cA : C8 1 7 = 0 → am_G (am_ev (d + 60)) 86 [.ref 1] (C, Jc, (tc_R x), tc_S, 289, 11479) = some (none, ((am_u2 (am_u2 (am_u2 (am_u2 (am_u2 C8 (tc_P (!x) + 3 + 1) (N 1) u1) (tc_P (!x) + 1) 1 (nI (N 1 + 1))) (tc_P (!x) + 10) (N 1) u3) (tc_P (!x) + 11) (N 1) u5) (tc_P (!x) + 12) (N 1) u7), Jc, (tc_R x), tc_S, 289, 11479)) := fun z => cc _ (by
      rw [b86_50, if_pos z]
      refine (congrArg (fun z => am_call z _) (c_add (Jc := Jc) (x := x) (qd := 1) (by omega) cNz (by omega) u1 (d + 58))).trans ?_
      (rw [am_call_s, am_toL, b86_68, if_pos hs, if_pos hs, if_pos hs]; (try simp only [cs])))
    by_cases z8 : M8 0 8 = 0
    · have c7 := r7f.c7 z8
      have y7 := c7
      obtain ⟨z7, m7, e7a, e7b, e7c, e7d⟩ := r7g y7
      have y6 := r6f.c7 z7
      have z6 := r6g y6
      have z6 : M6 0 8 = 0 := (u2_c (by omega)).symm.trans z6
      have y5 := r5f.c7 z6
      obtain ⟨z5, m5, e5a, e5b, e5c, e5d⟩ := r5g y5
      have y4 := r4f.c7 z5
      have z4 := r4g y4
      have z4 : M4 0 8 = 0 := (u2_c (by omega)).symm.trans z4
      have y3 := r3f.c7 z4
      obtain ⟨z3, m3, e3a, e3l, e3x, e3b⟩ := r3g y3
      have e3n : m3 < N 0 := by
        have e1 : M3 2 (xb (!x)) = nI (N 0) := by rw [r2d 2 _ (by omega), r1d 2 _ (by omega), b4 2 _ (by omega)]; exact (hP.1 0 (by omega)).2.1
        have e2 : Int32.toNatClampNeg (M3 2 (xb (!x))) = N 0 := by rw [e1]; exact nI_clamp (by have := (hP.1 0 (by omega)).2.2; have := mx30 0; omega)
        have e3 : m3 < Int32.toNatClampNeg (M3 2 (xb (!x))) := e3l
        omega
      have y2 := r2f.c7 z3
      have z2 := r2g y2
      have z2 : M2 0 8 = 0 := (rfl).symm.trans z2
      have y1 := r1f.c7 z2
      obtain ⟨z1, nmr⟩ := r1g y1
      have e3b := e3b z4
      have mA : am_G (am_ev (e + 10)) 188 [.ref 0] (M, J, tm_R, tm_S, 77, 21637) = some (none, ((am_u2 (am_u2 M8 10 (8 * xb (!x) + N 1) w7) 6 (xb (!x)) (nI (N 1 + 1))), J8, tm_R, tm_S, 77, 21637)) := mz _ (by
        (rw [b188_112, if_pos ii, if_pos z8, i51z, if_pos hin, if_pos hin]; (try simp only [ct]); (try simp only [cb]); rw [kcz, nI_1]))
      have rmA : RM (!x) M (am_u2 (am_u2 M8 10 (8 * xb (!x) + N 1) w7) 6 (xb (!x)) (nI (N 1 + 1))) := (((((((((((b4.rm (y := !x)).tr r1d.rm).tr r2d.rm).tr r3d.rm).u (c := 8) (i := (8 * xb (!x) + N 1)) (by omega) (by omega) (show 8 * xb (!x) ≤ _ by omega) (show _ < 8 * xb (!x) + 8 by omega) w3).tr r4d.rm).tr r5d.rm).u (c := 9) (i := (8 * xb (!x) + N 1)) (by omega) (by omega) (show 8 * xb (!x) ≤ _ by omega) (show _ < 8 * xb (!x) + 8 by omega) w5).tr r6d.rm).tr r7d.rm).u (c := 10) (i := (8 * xb (!x) + N 1)) (by omega) (by omega) (show 8 * xb (!x) ≤ _ by omega) (show _ < 8 * xb (!x) + 8 by omega) w7).u (c := 6) (i := xb (!x)) (by omega) (by omega) (show 1 * xb (!x) ≤ _ by omega) (show _ < 1 * xb (!x) + 1 by omega) _
      refine ⟨(am_u2 (am_u2 (am_u2 (am_u2 (am_u2 C8 (tc_P (!x) + 3 + 1) (N 1) u1) (tc_P (!x) + 1) 1 (nI (N 1 + 1))) (tc_P (!x) + 10) (N 1) u3) (tc_P (!x) + 11) (N 1) u5) (tc_P (!x) + 12) (N 1) u7), (am_u2 (am_u2 M8 10 (8 * xb (!x) + N 1) w7) 6 (xb (!x)) (nI (N 1 + 1))), J8, cA c7, mA, (((((tfC.rc (y := !x)).vv (c := tc_P (!x) + 3 + 1) (k := N 1) (by omega) u1).vv (c := tc_P (!x) + 1) (k := 1) (by omega) (nI (N 1 + 1))).vv (c := tc_P (!x) + 10) (k := N 1) (by omega) u3).vv (c := tc_P (!x) + 11) (k := N 1) (by omega) u5).vv (c := tc_P (!x) + 12) (k := N 1) (by omega) u7, rmA, ((((((((b5.rj (y := !x)).tr r1e.rj).u (c := 7) (i := (8 * xb (!x) + N 1)) (by omega) (by omega) (show 8 * xb (!x) ≤ _ by omega) (show _ < 8 * xb (!x) + 8 by omega) w1).tr r2e.rj).tr r3e.rj).tr r4e.rj).tr r5e.rj).tr r6e.rj).tr r7e.rj, p + 1, by omega, ?_, fun _ => ⟨upN N 1, la, lb, ⟨?_, ?_, ?_⟩, by omega, by omega⟩⟩
      · exact (((((((r7f.uM (c := 10) (i := (8 * xb (!x) + N 1)) (by omega) w7).uM (c := 6) (i := xb (!x)) (by omega) (nI (N 1 + 1))).uC (c := tc_P (!x) + 3 + 1) (i := N 1) (by omega) u1).uC (c := tc_P (!x) + 1) (i := 1) (by omega) (nI (N 1 + 1))).uC (c := tc_P (!x) + 10) (i := N 1) (by omega) u3).uC (c := tc_P (!x) + 11) (i := N 1) (by omega) u5).uC (c := tc_P (!x) + 12) (i := N 1) (by omega) u7)
      · refine hP.1.up (by omega) hlt0 (fun i hi => ?_) (fun i hi => ?_)
        · have t0 : C8 (tc_P (!x) + 1) i = C (tc_P (!x) + 1) i := tfC _ _ (by omega)
          by_cases zi : i = 1
          · rw [u2_c (by omega), u2_c (by omega), u2_c (by omega), u2_e rfl zi, if_pos zi]
          · rw [u2_c (by omega), u2_c (by omega), u2_c (by omega), u2_p zi, u2_c (by omega), if_neg zi, t0]
        · have t0 : ∀ c, 2 ≤ c → (c ≠ 8 ∧ c ≠ 9 ∧ c ≠ 10) → (am_u2 M8 10 (8 * xb (!x) + N 1) w7) c (xb (!x)) = M c (xb (!x)) := fun c hc h => by
            rw [u2_c (by omega)]; exact fM c _ (by omega) (by omega) (by omega)
          have c9 := cq9 hi
          by_cases zi : i = 1
          · subst zi
            rw [if_pos rfl]; exact u2_s
          · rw [if_neg zi, u2_c (show cqq i ≠ 6 from c9.2.2 1 (by omega) zi)]
            exact t0 _ c9.1 (by first | trivial | (have := c9.2.1; simp only [List.mem_cons, List.not_mem_nil, or_false] at this; omega))
      · refine PG.up (PG.fr hP.2.1 n2 (fun o k ho hk => ?_) (fun a k ha1 ha2 hk => ?_) ?_ (fun q k hq hk => ?_)) (by omega) ?_ (fun z => by omega) ?_ (fun z => by omega) (fun z => by omega) (fun z => by omega)
        · have t0 : C8 (tc_P (!x) + o) k = C (tc_P (!x) + o) k := tfC _ _ (by omega)
          by_cases z1 : o = 1
          · subst z1; exact absurd hk (Nat.not_lt_zero _)
          have key : (o = 4 ∨ o = 10 ∨ o = 11 ∨ o = 12) → k < N 1 := by
            rintro (rfl | rfl | rfl | rfl) <;> exact hk
          rw [fr1 (orr (fun z2 z3 => by have := key (by omega); omega)), fr1 (orr (fun z2 z3 => by have := key (by omega); omega)), fr1 (orr (fun z2 z3 => by have := key (by omega); omega)), fr1 (Or.inl (by omega)), fr1 (orr (fun z2 z3 => by have := key (by omega); omega))]; exact t0
        · by_cases z1 : a = 6
          · subst z1; exact absurd hk (Nat.not_lt_zero _)
          have key : ∀ b, b = sdd a * xb (!x) + k → ¬ (a = 8 ∧ b = (8 * xb (!x) + N 1)) ∧ ¬ (a = 9 ∧ b = (8 * xb (!x) + N 1)) ∧ ¬ (a = 10 ∧ b = (8 * xb (!x) + N 1)) := by
            intro b hb
            refine ⟨?_, ?_, ?_⟩ <;> (rintro ⟨rfl, e2⟩; have hk : k < N 1 := hk; have hb : b = 8 * xb (!x) + k := hb; omega)
          rw [u2_c z1, fr1 (orr (fun z2 z3 => ((key _ rfl).2.2) ⟨z2, z3⟩)), fM a _ (by omega) ((key _ rfl).1) ((key _ rfl).2.1)]
        · rw [u2_c (by omega), u2_c (by omega)]; exact fM 0 50 (by omega) (by omega) (by omega)
        · have key : ¬ (jk q = 7 ∧ kx q * xb (!x) + k = (8 * xb (!x) + N 1)) := by
            rintro ⟨e1, e2⟩
            have e3 := jk_i hq (show 1 < 5 by omega) e1
            subst e3
            have e2 : 8 * xb (!x) + k = 8 * xb (!x) + N 1 := e2
            omega
          exact fJ _ _ (jk_0 hq) key
        · intro _
          rw [u2_c (by omega), u2_c (by omega), u2_c (by omega), u2_c (by omega), u2_s]
          have e1 : J8 (jk 1) (kx 1 * xb (!x) + N 1) = w1 := by
            show J8 7 (8 * xb (!x) + N 1) = w1
            rw [r7e 7 _ (by omega), r6e 7 _ (by omega), r5e 7 _ (by omega), r4e 7 _ (by omega), r3e 7 _ (by omega), r2e 7 _ (by omega), u2_s]
          rw [e1]; exact nmr
        · intro _
          refine ⟨m3, m5, m7, ?_, ?_, ?_, ?_, ?_, ?_, e3n, by omega, by omega, by omega, by omega⟩
          · rw [u2_c (by omega), u2_c (by omega), u2_s]; exact e3a
          · rw [u2_c (by omega), u2_s]; exact e5a
          · rw [u2_s]; exact e7a
          · rw [u2_c (by omega), u2_c (by omega), r7d 8 _ (by omega), r6d 8 _ (by omega), u2_c (by omega), r5d 8 _ (by omega), r4d 8 _ (by omega), u2_s]; exact e3b
          · rw [u2_c (by omega), u2_c (by omega), r7d 9 _ (by omega), r6d 9 _ (by omega), u2_s]; exact e5b
          · rw [u2_c (by omega), u2_s]; exact e7b
      · rw [u2_c (by omega), u2_c (by omega)]; exact i51z
    · have mB : am_G (am_ev (e + 10)) 188 [.ref 0] (M, J, tm_R, tm_S, 77, 21637) = some (none, ((am_u2 M8 10 (8 * xb (!x) + N 1) w7), J8, tm_R, tm_S, 77, 21637)) := mz _ (by
        (rw [b188_112, if_pos ii, if_neg z8]; (try simp only [ct])))
      have n8 : ¬ (am_u2 M8 10 (8 * xb (!x) + N 1) w7) 0 8 = 0 := fun z => z8 ((u2_c (by omega)).symm.trans z)
      by_cases c7 : C8 1 7 = 0
      · exact ⟨(am_u2 (am_u2 (am_u2 (am_u2 (am_u2 C8 (tc_P (!x) + 3 + 1) (N 1) u1) (tc_P (!x) + 1) 1 (nI (N 1 + 1))) (tc_P (!x) + 10) (N 1) u3) (tc_P (!x) + 11) (N 1) u5) (tc_P (!x) + 12) (N 1) u7), (am_u2 M8 10 (8 * xb (!x) + N 1) w7), J8, cA c7, mB, (((((tfC.rc (y := !x)).vv (c := tc_P (!x) + 3 + 1) (k := N 1) (by omega) u1).vv (c := tc_P (!x) + 1) (k := 1) (by omega) (nI (N 1 + 1))).vv (c := tc_P (!x) + 10) (k := N 1) (by omega) u3).vv (c := tc_P (!x) + 11) (k := N 1) (by omega) u5).vv (c := tc_P (!x) + 12) (k := N 1) (by omega) u7, ((((((((((b4.rm (y := !x)).tr r1d.rm).tr r2d.rm).tr r3d.rm).u (c := 8) (i := (8 * xb (!x) + N 1)) (by omega) (by omega) (show 8 * xb (!x) ≤ _ by omega) (show _ < 8 * xb (!x) + 8 by omega) w3).tr r4d.rm).tr r5d.rm).u (c := 9) (i := (8 * xb (!x) + N 1)) (by omega) (by omega) (show 8 * xb (!x) ≤ _ by omega) (show _ < 8 * xb (!x) + 8 by omega) w5).tr r6d.rm).tr r7d.rm).u (c := 10) (i := (8 * xb (!x) + N 1)) (by omega) (by omega) (show 8 * xb (!x) ≤ _ by omega) (show _ < 8 * xb (!x) + 8 by omega) w7, ((((((((b5.rj (y := !x)).tr r1e.rj).u (c := 7) (i := (8 * xb (!x) + N 1)) (by omega) (by omega) (show 8 * xb (!x) ≤ _ by omega) (show _ < 8 * xb (!x) + 8 by omega) w1).tr r2e.rj).tr r3e.rj).tr r4e.rj).tr r5e.rj).tr r6e.rj).tr r7e.rj, p + 1, by omega, ((((((r7f.uM (c := 10) (i := (8 * xb (!x) + N 1)) (by omega) w7).uC (c := tc_P (!x) + 3 + 1) (i := N 1) (by omega) u1).uC (c := tc_P (!x) + 1) (i := 1) (by omega) (nI (N 1 + 1))).uC (c := tc_P (!x) + 10) (i := N 1) (by omega) u3).uC (c := tc_P (!x) + 11) (i := N 1) (by omega) u5).uC (c := tc_P (!x) + 12) (i := N 1) (by omega) u7), fun z => absurd z n8⟩
      · exact ⟨C8, (am_u2 M8 10 (8 * xb (!x) + N 1) w7), J8, cc _ (by rw [b86_50, if_neg c7]), mB, tfC.rc, ((((((((((b4.rm (y := !x)).tr r1d.rm).tr r2d.rm).tr r3d.rm).u (c := 8) (i := (8 * xb (!x) + N 1)) (by omega) (by omega) (show 8 * xb (!x) ≤ _ by omega) (show _ < 8 * xb (!x) + 8 by omega) w3).tr r4d.rm).tr r5d.rm).u (c := 9) (i := (8 * xb (!x) + N 1)) (by omega) (by omega) (show 8 * xb (!x) ≤ _ by omega) (show _ < 8 * xb (!x) + 8 by omega) w5).tr r6d.rm).tr r7d.rm).u (c := 10) (i := (8 * xb (!x) + N 1)) (by omega) (by omega) (show 8 * xb (!x) ≤ _ by omega) (show _ < 8 * xb (!x) + 8 by omega) w7, ((((((((b5.rj (y := !x)).tr r1e.rj).u (c := 7) (i := (8 * xb (!x) + N 1)) (by omega) (by omega) (show 8 * xb (!x) ≤ _ by omega) (show _ < 8 * xb (!x) + 8 by omega) w1).tr r2e.rj).tr r3e.rj).tr r4e.rj).tr r5e.rj).tr r6e.rj).tr r7e.rj, p + 1, by omega, (r7f.uM (c := 10) (i := (8 * xb (!x) + N 1)) (by omega) w7), fun z => absurd z n8⟩
  · obtain ⟨rfl, bd1⟩ := b8 h8
    obtain ⟨D1, u1, t1a, t1b, t1c, t1d⟩ := bd1.nn (Jc := Jc) (x := x) (d + 57)
    obtain ⟨D2, t2a, t2b, t2c, t2d⟩ := t1c.tk (Jc := Jc) (x := x) (c := 3) (by decide) 4 (d + 57)
    obtain ⟨D3, u3, t3a, t3b, t3c, t3d⟩ := t2c.tt (Jc := Jc) (x := x) 0 (d + 57)
    obtain ⟨D4, t4a, t4b, t4c, t4d⟩ := t3c.tk (Jc := Jc) (x := x) (c := 3) (by decide) 5 (d + 57)
    obtain ⟨D5, u5, t5a, t5b, t5c, t5d⟩ := t4c.tn (Jc := Jc) (x := x) 1 99 (d + 57)
    obtain ⟨D6, t6a, t6b, t6c, t6d⟩ := t5c.tk (Jc := Jc) (x := x) (c := 3) (by decide) 6 (d + 57)
    obtain ⟨D7, u7, t7a, t7b, t7c, t7d⟩ := t6c.tn (Jc := Jc) (x := x) 1 99 (d + 57)
    have tfD : TF C D7 := (((((((b3.tr t1b).tr t2b).tr t3b).tr t4b).tr t5b).tr t6b).tr t7b)
    refine ⟨D7, M1, J1, ?_, ?_, tfD.rc, b4.rm, b5.rj, p + 1, by omega, ⟨g.1.1.tf tfD b4, g.1.2.2.2.2.2.fr (fun b => tfD 2 b (fun z => by omega)), Or.inr t7c⟩, fun z => absurd z h8⟩
    · refine (b86_0 _ _ _ _).trans ((congrArg (fun z => am_call z _) b1).trans ?_)
      rw [am_call_s, am_toN, b86_5]
      refine (congrArg (fun z => am_call z _) t1a).trans ?_
      rw [am_call_s, am_toL, b86_9]
      refine (congrArg (fun z => am_call z _) t2a).trans ?_
      rw [am_call_s, am_toN, b86_16]
      refine (congrArg (fun z => am_call z _) t3a).trans ?_
      rw [am_call_s, am_toL, b86_21]
      refine (congrArg (fun z => am_call z _) t4a).trans ?_
      rw [am_call_s, am_toN, b86_28]
      refine (congrArg (fun z => am_call z _) t5a).trans ?_
      rw [am_call_s, am_toL, b86_35]
      refine (congrArg (fun z => am_call z _) t6a).trans ?_
      rw [am_call_s, am_toN, b86_43]
      refine (congrArg (fun z => am_call z _) t7a).trans ?_
      rw [am_call_s, am_toL, b86_50, if_neg t7d]
    · rw [m0, b188_23, if_pos rfl]
theorem st_press (g : Gd T n C M J p q k v w) (hk : k = 3) (hP : PL x N la lb C M J) (hla : la ≤ p) (hlb : lb ≤ p) (d e : Nat) : Stm x T n 90 193 p C M J Jc d e := by
  have hb1 := xb1 (!x)
  have hy := tc_P4 (!x)
  have nk : N 3 ≤ 4 := (hP.1 3 (by omega)).2.2
  have n2 : N 2 ≤ 6 := (hP.1 2 (by omega)).2.2
  have i51 : M 0 51 = nI (xb (!x)) := hP.2.2
  have hin : am_in (nI (xb (!x))) 2 := nI_in (by omega) (by omega)
  have cb : Int32.toNatClampNeg (nI (xb (!x))) = xb (!x) := nI_clamp (by omega)
  have kc1 : M 20 (xb (!x)) = nI (N 3) := (hP.1 3 (by omega)).2.1
  obtain ⟨C1, M1, J1, s, b1, b2, b3, b4, b5, b6, b7, b8⟩ := g.beg (Jc := Jc) hk hP (kd := 3) (by omega) (d + 56) (e + 6)
  have m0 : am_G (am_ev (e + 10)) 193 [.ref 0] (M, J, tm_R, tm_S, 77, 21637) = am_ev (e + 10) 193 22 [.ref 0] [.int s] (M1, J1, tm_R, tm_S, 77, 21637) := by
    (rw [b193_0, i51, if_pos hin]; (try simp only [cb]); rw [kc1])
    rcases b2 with ⟨z, b2⟩ | ⟨z, b2⟩
    · have z : N 3 = 4 := z
      rw [if_pos (by rw [z]; rfl), b2, am_call_s, am_toL]
    · have z : N 3 < 4 := z
      rw [if_neg (neR (c := 4) 4 rfl (by omega) (by omega) (by omega)), b2, am_call_s, am_toL]
  by_cases h8 : M1 0 8 = 0
  · obtain ⟨rfl, hlt0⟩ := b7 h8
    have hlt : N 3 < 4 := hlt0
    have i51a : M1 0 51 = nI (xb (!x)) := (b4 0 51 (by omega)).trans i51
    have kca : M1 20 (xb (!x)) = nI (N 3) := (b4 20 _ (by omega)).trans kc1
    have ix : (4 : Int32) * nI (xb (!x)) + nI (N 3) = nI (4 * xb (!x) + N 3) := nI_ix 4 _ _
    have ii : am_in (nI (4 * xb (!x) + N 3)) 8 := nI_in (by omega) (by omega)
    have ct : Int32.toNatClampNeg (nI (4 * xb (!x) + N 3)) = (4 * xb (!x) + N 3) := nI_clamp (by omega)
    have nm0 : Nm (!x) C1 M1 J1 := hP.nm.tf b3 b4 b5
    obtain ⟨C2, M2, J2, u1, w1, r1a, r1b, r1c, r1d, r1e, r1f, r1g⟩ := Sy.fresh (Jc := Jc) (x := x) b6 nm0 (d + 56) (e + 5)
    have nm1 : Nm (!x) C2 M2 J2 := nm0.tf r1c r1d r1e
    have tfC : TF C C2 := (b3.tr r1c)
    have fM : ∀ a j, (a = 0 → j < 3 ∨ 9 < j) → M2 a j = M a j := fun a j h0  => by rw [r1d a j h0, b4 a j h0]
    have fJ : ∀ a j, (a = 0 → j ≠ 7) → J2 a j = J a j := fun a j h0  => by rw [r1e a j h0, b5 a j h0]
    have i51z : M2 0 51 = nI (xb (!x)) := (fM 0 51 (by omega) ).trans i51
    have kcz : M2 20 (xb (!x)) = nI (N 3) := (fM 20 _ (by omega) ).trans kc1
    have cN : C (tc_P (!x) + 1) 3 = nI (N 3) := (hP.1 3 (by omega)).1
    have cNz : C2 (tc_P (!x) + 1) 3 = nI (N 3) := (tfC _ _ (by omega)).trans cN
    have cs : Int32.toNatClampNeg (nI (N 3)) = N 3 := nI_clamp (by omega)
    have hs : am_in (nI (N 3)) 8 := nI_in (by omega) (by omega)
    have cc : ∀ Z, am_ev (d + 60) 90 9 [.ref 1, am_un] [.int u1] (C2, Jc, (tc_R x), tc_S, 289, 11479) = Z → am_G (am_ev (d + 60)) 90 [.ref 1] (C, Jc, (tc_R x), tc_S, 289, 11479) = Z := by
      intro Z hZ
      refine (b90_0 _ _ _ _).trans ((congrArg (fun z => am_call z _) b1).trans ?_)
      rw [am_call_s, am_toN, b90_5]
      refine (congrArg (fun z => am_call z _) r1a).trans ?_
      rw [am_call_s, am_toL]
      exact hZ
    have mz : ∀ Z, am_ev (e + 10) 193 50 [.ref 0] [.long w1, .int (nI (4 * xb (!x) + N 3)), .ref 21] (M2, J2, tm_R, tm_S, 77, 21637) = Z → am_G (am_ev (e + 10)) 193 [.ref 0] (M, J, tm_R, tm_S, 77, 21637) = Z := by
      intro Z hZ
      (rw [m0, b193_22, if_neg (by decide : ¬ (1 : Int32) = 0), i51a, if_pos hin]; (try simp only [cb]); rw [kca, ix])
      refine (congrArg (fun z => am_call z _) r1b).trans ?_
      rw [am_call_s, am_toL]
      exact hZ
    have cA : C2 1 7 = 0 → am_G (am_ev (d + 60)) 90 [.ref 1] (C, Jc, (tc_R x), tc_S, 289, 11479) = some (none, ((am_u2 (am_u2 C2 (tc_P (!x) + 3 + 3) (N 3) u1) (tc_P (!x) + 1) 3 (nI (N 3 + 1))), Jc, (tc_R x), tc_S, 289, 11479)) := fun z => cc _ (by
      rw [b90_9, if_pos z]
      refine (congrArg (fun z => am_call z _) (c_add (Jc := Jc) (x := x) (qd := 3) (by omega) cNz (by omega) u1 (d + 58))).trans ?_
      rw [am_call_s, am_toL, b90_26])
    by_cases z8 : M2 0 8 = 0
    · have c7 := r1f.c7 z8
      have y1 := c7
      obtain ⟨z1, nmr⟩ := r1g y1
      have mA : am_G (am_ev (e + 10)) 193 [.ref 0] (M, J, tm_R, tm_S, 77, 21637) = some (none, ((am_u2 M2 20 (xb (!x)) (nI (N 3 + 1))), (am_u2 J2 21 (4 * xb (!x) + N 3) w1), tm_R, tm_S, 77, 21637)) := mz _ (by
        (rw [b193_50, if_pos ii, if_pos z8, i51z, if_pos hin, if_pos hin]; (try simp only [ct]); (try simp only [cb]); rw [kcz, nI_1]))
      have rmA : RM (!x) M (am_u2 M2 20 (xb (!x)) (nI (N 3 + 1))) := ((b4.rm (y := !x)).tr r1d.rm).u (c := 20) (i := xb (!x)) (by omega) (by omega) (show 1 * xb (!x) ≤ _ by omega) (show _ < 1 * xb (!x) + 1 by omega) _
      refine ⟨(am_u2 (am_u2 C2 (tc_P (!x) + 3 + 3) (N 3) u1) (tc_P (!x) + 1) 3 (nI (N 3 + 1))), (am_u2 M2 20 (xb (!x)) (nI (N 3 + 1))), (am_u2 J2 21 (4 * xb (!x) + N 3) w1), cA c7, mA, ((tfC.rc (y := !x)).vv (c := tc_P (!x) + 3 + 3) (k := N 3) (by omega) u1).vv (c := tc_P (!x) + 1) (k := 3) (by omega) (nI (N 3 + 1)), rmA, ((b5.rj (y := !x)).tr r1e.rj).u (c := 21) (i := (4 * xb (!x) + N 3)) (by omega) (by omega) (show 4 * xb (!x) ≤ _ by omega) (show _ < 4 * xb (!x) + 4 by omega) w1, p + 1, by omega, ?_, fun _ => ⟨upN N 3, la, lb, ⟨?_, ?_, ?_⟩, by omega, by omega⟩⟩
      · exact ((((r1f.uJ (c := 21) (i := (4 * xb (!x) + N 3)) (by omega) w1).uM (c := 20) (i := xb (!x)) (by omega) (nI (N 3 + 1))).uC (c := tc_P (!x) + 3 + 3) (i := N 3) (by omega) u1).uC (c := tc_P (!x) + 1) (i := 3) (by omega) (nI (N 3 + 1)))
      · refine hP.1.up (by omega) hlt0 (fun i hi => ?_) (fun i hi => ?_)
        · have t0 : C2 (tc_P (!x) + 1) i = C (tc_P (!x) + 1) i := tfC _ _ (by omega)
          by_cases zi : i = 3
          · rw [u2_e rfl zi, if_pos zi]
          · rw [u2_p zi, u2_c (by omega), if_neg zi, t0]
        · have t0 : ∀ c, 2 ≤ c → (True) → M2 c (xb (!x)) = M c (xb (!x)) := fun c hc h => by
            exact fM c _ (by omega) 
          have c9 := cq9 hi
          by_cases zi : i = 3
          · subst zi
            rw [if_pos rfl]; exact u2_s
          · rw [if_neg zi, u2_c (show cqq i ≠ 20 from c9.2.2 3 (by omega) zi)]
            exact t0 _ c9.1 (by first | trivial | (have := c9.2.1; simp only [List.mem_cons, List.not_mem_nil, or_false] at this; omega))
      · refine PG.up (PG.fr hP.2.1 n2 (fun o k ho hk => ?_) (fun a k ha1 ha2 hk => ?_) ?_ (fun q k hq hk => ?_)) (by omega) ?_ (fun z => by omega) (fun z => by omega) (fun z => by omega) (fun z => by omega) (fun z => by omega)
        · have t0 : C2 (tc_P (!x) + o) k = C (tc_P (!x) + o) k := tfC _ _ (by omega)
          by_cases z1 : o = 1
          · subst z1; exact absurd hk (Nat.not_lt_zero _)
          have key : (o = 6) → k < N 3 := by
            rintro rfl; exact hk
          rw [fr1 (Or.inl (by omega)), fr1 (orr (fun z2 z3 => by have := key (by omega); omega))]; exact t0
        · by_cases z1 : a = 20
          · subst z1; exact absurd hk (Nat.not_lt_zero _)
          rw [u2_c z1, fM a _ (by omega)]
        · rw [u2_c (by omega)]; exact fM 0 50 (by omega) 
        · have key : ¬ (jk q = 21 ∧ kx q * xb (!x) + k = (4 * xb (!x) + N 3)) := by
            rintro ⟨e1, e2⟩
            have e3 := jk_i hq (show 3 < 5 by omega) e1
            subst e3
            have e2 : 4 * xb (!x) + k = 4 * xb (!x) + N 3 := e2
            omega
          rw [fr1J (orr (fun z2 z3 => key ⟨z2, z3⟩))]; exact fJ _ _ (jk_0 hq)
        · intro _
          rw [u2_c (by omega), u2_s]
          have e1 : (am_u2 J2 21 (4 * xb (!x) + N 3) w1) (jk 3) (kx 3 * xb (!x) + N 3) = w1 := u2_s
          rw [e1]; exact nmr

      · rw [u2_c (by omega)]; exact i51z
    · have mB : am_G (am_ev (e + 10)) 193 [.ref 0] (M, J, tm_R, tm_S, 77, 21637) = some (none, (M2, (am_u2 J2 21 (4 * xb (!x) + N 3) w1), tm_R, tm_S, 77, 21637)) := mz _ (by
        (rw [b193_50, if_pos ii, if_neg z8]; (try simp only [ct])))
      have n8 : ¬ M2 0 8 = 0 := z8
      by_cases c7 : C2 1 7 = 0
      · exact ⟨(am_u2 (am_u2 C2 (tc_P (!x) + 3 + 3) (N 3) u1) (tc_P (!x) + 1) 3 (nI (N 3 + 1))), M2, (am_u2 J2 21 (4 * xb (!x) + N 3) w1), cA c7, mB, ((tfC.rc (y := !x)).vv (c := tc_P (!x) + 3 + 3) (k := N 3) (by omega) u1).vv (c := tc_P (!x) + 1) (k := 3) (by omega) (nI (N 3 + 1)), (b4.rm (y := !x)).tr r1d.rm, ((b5.rj (y := !x)).tr r1e.rj).u (c := 21) (i := (4 * xb (!x) + N 3)) (by omega) (by omega) (show 4 * xb (!x) ≤ _ by omega) (show _ < 4 * xb (!x) + 4 by omega) w1, p + 1, by omega, (((r1f.uJ (c := 21) (i := (4 * xb (!x) + N 3)) (by omega) w1).uC (c := tc_P (!x) + 3 + 3) (i := N 3) (by omega) u1).uC (c := tc_P (!x) + 1) (i := 3) (by omega) (nI (N 3 + 1))), fun z => absurd z n8⟩
      · exact ⟨C2, M2, (am_u2 J2 21 (4 * xb (!x) + N 3) w1), cc _ (by rw [b90_9, if_neg c7]), mB, tfC.rc, (b4.rm (y := !x)).tr r1d.rm, ((b5.rj (y := !x)).tr r1e.rj).u (c := 21) (i := (4 * xb (!x) + N 3)) (by omega) (by omega) (show 4 * xb (!x) ≤ _ by omega) (show _ < 4 * xb (!x) + 4 by omega) w1, p + 1, by omega, (r1f.uJ (c := 21) (i := (4 * xb (!x) + N 3)) (by omega) w1), fun z => absurd z n8⟩
  · obtain ⟨rfl, bd1⟩ := b8 h8
    obtain ⟨D1, u1, t1a, t1b, t1c, t1d⟩ := bd1.nn (Jc := Jc) (x := x) (d + 57)
    have tfD : TF C D1 := (b3.tr t1b)
    refine ⟨D1, M1, J1, ?_, ?_, tfD.rc, b4.rm, b5.rj, p + 1, by omega, ⟨g.1.1.tf tfD b4, g.1.2.2.2.2.2.fr (fun b => tfD 2 b (fun z => by omega)), Or.inr t1c⟩, fun z => absurd z h8⟩
    · refine (b90_0 _ _ _ _).trans ((congrArg (fun z => am_call z _) b1).trans ?_)
      rw [am_call_s, am_toN, b90_5]
      refine (congrArg (fun z => am_call z _) t1a).trans ?_
      rw [am_call_s, am_toL, b90_9, if_neg t1d]
    · rw [m0, b193_22, if_pos rfl]
theorem st_mould (g : Gd T n C M J p q k v w) (hk : k = 3) (hP : PL x N la lb C M J) (hla : la ≤ p) (hlb : lb ≤ p) (d e : Nat) : Stm x T n 91 194 p C M J Jc d e := by
  have hb1 := xb1 (!x)
  have hy := tc_P4 (!x)
  have nk : N 4 ≤ 8 := (hP.1 4 (by omega)).2.2
  have n2 : N 2 ≤ 6 := (hP.1 2 (by omega)).2.2
  have i51 : M 0 51 = nI (xb (!x)) := hP.2.2
  have hin : am_in (nI (xb (!x))) 2 := nI_in (by omega) (by omega)
  have cb : Int32.toNatClampNeg (nI (xb (!x))) = xb (!x) := nI_clamp (by omega)
  have kc1 : M 22 (xb (!x)) = nI (N 4) := (hP.1 4 (by omega)).2.1
  obtain ⟨C1, M1, J1, s, b1, b2, b3, b4, b5, b6, b7, b8⟩ := g.beg (Jc := Jc) hk hP (kd := 4) (by omega) (d + 56) (e + 6)
  have m0 : am_G (am_ev (e + 10)) 194 [.ref 0] (M, J, tm_R, tm_S, 77, 21637) = am_ev (e + 10) 194 23 [.ref 0, am_un] [.int s] (M1, J1, tm_R, tm_S, 77, 21637) := by
    (rw [b194_0, i51, if_pos hin]; (try simp only [cb]); rw [kc1])
    rcases b2 with ⟨z, b2⟩ | ⟨z, b2⟩
    · have z : N 4 = 8 := z
      rw [if_pos (by rw [z]; rfl), b2, am_call_s, am_toL]
    · have z : N 4 < 8 := z
      rw [if_neg (neR (c := 8) 8 rfl (by omega) (by omega) (by omega)), b2, am_call_s, am_toL]
  by_cases h8 : M1 0 8 = 0
  · obtain ⟨rfl, hlt0⟩ := b7 h8
    have hlt : N 4 < 8 := hlt0
    have i51a : M1 0 51 = nI (xb (!x)) := (b4 0 51 (by omega)).trans i51
    have kca : M1 22 (xb (!x)) = nI (N 4) := (b4 22 _ (by omega)).trans kc1
    have ix : (8 : Int32) * nI (xb (!x)) + nI (N 4) = nI (8 * xb (!x) + N 4) := nI_ix 8 _ _
    have ii : am_in (nI (8 * xb (!x) + N 4)) 16 := nI_in (by omega) (by omega)
    have ct : Int32.toNatClampNeg (nI (8 * xb (!x) + N 4)) = (8 * xb (!x) + N 4) := nI_clamp (by omega)
    have nm0 : Nm (!x) C1 M1 J1 := hP.nm.tf b3 b4 b5
    obtain ⟨C2, M2, J2, u1, w1, r1a, r1b, r1c, r1d, r1e, r1f, r1g⟩ := Sy.fresh (Jc := Jc) (x := x) b6 nm0 (d + 56) (e + 5)
    have nm1 : Nm (!x) C2 M2 J2 := nm0.tf r1c r1d r1e
    have s1 := r1f.uJ (c := 23) (i := (8 * xb (!x) + N 4)) (by omega) w1
    have cK : Int32.toNatClampNeg (M2 (kc 4) (xb (!x))) ≤ N 4 := by
      have e1 : M2 22 (xb (!x)) = nI (N 4) := by rw [r1d 22 _ (by omega), b4 22 _ (by omega)]; exact kc1
      have e2 : Int32.toNatClampNeg (M2 22 (xb (!x))) = N 4 := by rw [e1]; exact nI_clamp (by omega)
      exact Nat.le_of_eq e2
    have nm1s : Nm (!x) C2 M2 (am_u2 J2 23 (8 * xb (!x) + N 4) w1) := nm1.uJ (qd := 4) (i := N 4) (by omega) cK w1
    obtain ⟨C3, M3, J3, r2a, r2b, r2c, r2d, r2e, r2f, r2g⟩ := Sy.must (Jc := Jc) (x := x) s1 (j := 4) (by omega) (c := 28518) (by decide) (d + 56) (e + 6)
    have nm2 : Nm (!x) C3 M3 J3 := nm1s.tf r2c r2d r2e
    obtain ⟨C4, M4, J4, u3, w3, r3a, r3b, r3c, r3d, r3e, r3f, r3g⟩ := Sy.asked (Jc := Jc) (x := x) r2f nm2 (kd := 2) (by omega) (d + 56) (e + 6)
    have nm3 : Nm (!x) C4 M4 J4 := nm2.tf r3c r3d r3e
    have s3 := r3f.uM (c := 24) (i := (8 * xb (!x) + N 4)) (by omega) w3
    have nm3s := nm3.uM (c := 24) (i := (8 * xb (!x) + N 4)) (by omega) (by omega) (by omega) (by omega) (by omega) (by omega) (by omega) (by omega) (by omega) (by omega) w3
    obtain ⟨C5, M5, J5, r4a, r4b, r4c, r4d, r4e, r4f, r4g⟩ := Sy.must (Jc := Jc) (x := x) s3 (j := 13) (by omega) (c := 465625834867) (by decide) (d + 56) (e + 6)
    have nm4 : Nm (!x) C5 M5 J5 := nm3s.tf r4c r4d r4e
    obtain ⟨C6, M6, J6, u5, w5, r5a, r5b, r5c, r5d, r5e, r5f, r5g⟩ := Sy.num (Jc := Jc) (x := x) r4f (a := 1) (a' := 1) (b := 99) (l0 := 1) (hi := 99) rfl (by omega) (fun _ => ⟨rfl, rfl, by omega⟩) (d + 56) (e + 6)
    have nm5 : Nm (!x) C6 M6 J6 := nm4.tf r5c r5d r5e
    have tfC : TF C C6 := (((((b3.tr r1c).tr r2c).tr r3c).tr r4c).tr r5c)
    have fM : ∀ a j, (a = 0 → j < 3 ∨ 9 < j) → ¬ (a = 24 ∧ j = (8 * xb (!x) + N 4)) → M6 a j = M a j := fun a j h0 h1 => by rw [r5d a j h0, r4d a j h0, fr1 (orr (fun z1 z2 => h1 ⟨z1, z2⟩)), r3d a j h0, r2d a j h0, r1d a j h0, b4 a j h0]
    have fJ : ∀ a j, (a = 0 → j ≠ 7) → ¬ (a = 23 ∧ j = (8 * xb (!x) + N 4)) → J6 a j = J a j := fun a j h0 q1 => by rw [r5e a j h0, r4e a j h0, r3e a j h0, r2e a j h0, fr1J (orr (fun z1 z2 => q1 ⟨z1, z2⟩)), r1e a j h0, b5 a j h0]
    have i51z : M6 0 51 = nI (xb (!x)) := (fM 0 51 (by omega) (by omega)).trans i51
    have kcz : M6 22 (xb (!x)) = nI (N 4) := (fM 22 _ (by omega) (by omega)).trans kc1
    have cN : C (tc_P (!x) + 1) 4 = nI (N 4) := (hP.1 4 (by omega)).1
    have cNz : C6 (tc_P (!x) + 1) 4 = nI (N 4) := (tfC _ _ (by omega)).trans cN
    have cs : Int32.toNatClampNeg (nI (N 4)) = N 4 := nI_clamp (by omega)
    have hs : am_in (nI (N 4)) 8 := nI_in (by omega) (by omega)
    have cc : ∀ Z, am_ev (d + 60) 91 36 [.ref 1, .int u1, .int u3, am_un, am_un] [.int u5] (C6, Jc, (tc_R x), tc_S, 289, 11479) = Z → am_G (am_ev (d + 60)) 91 [.ref 1] (C, Jc, (tc_R x), tc_S, 289, 11479) = Z := by
      intro Z hZ
      refine (b91_0 _ _ _ _).trans ((congrArg (fun z => am_call z _) b1).trans ?_)
      rw [am_call_s, am_toN, b91_5]
      refine (congrArg (fun z => am_call z _) r1a).trans ?_
      rw [am_call_s, am_toL, b91_9]
      refine (congrArg (fun z => am_call z _) r2a).trans ?_
      rw [am_call_s, am_toN, b91_16]
      refine (congrArg (fun z => am_call z _) r3a).trans ?_
      rw [am_call_s, am_toL, b91_21]
      refine (congrArg (fun z => am_call z _) r4a).trans ?_
      rw [am_call_s, am_toN, b91_29]
      refine (congrArg (fun z => am_call z _) r5a).trans ?_
      rw [am_call_s, am_toL]
      exact hZ
    have mz : ∀ Z, am_ev (e + 10) 194 92 [.ref 0, .int (nI (8 * xb (!x) + N 4))] [.int w5, .int (nI (8 * xb (!x) + N 4)), .ref 25] (M6, J6, tm_R, tm_S, 77, 21637) = Z → am_G (am_ev (e + 10)) 194 [.ref 0] (M, J, tm_R, tm_S, 77, 21637) = Z := by
      intro Z hZ
      (rw [m0, b194_23, if_neg (by decide : ¬ (1 : Int32) = 0), i51a, if_pos hin]; (try simp only [cb]); rw [kca, ix])
      refine (congrArg (fun z => am_call z _) r1b).trans ?_
      (rw [am_call_s, am_toL, b194_54, if_pos ii]; (try simp only [ct]))
      refine (congrArg (fun z => am_call z _) r2b).trans ?_
      rw [am_call_s, am_toN, b194_62]
      refine (congrArg (fun z => am_call z _) r3b).trans ?_
      (rw [am_call_s, am_toL, b194_72, if_pos ii]; (try simp only [ct]))
      refine (congrArg (fun z => am_call z _) r4b).trans ?_
      rw [am_call_s, am_toN, b194_80]
      refine (congrArg (fun z => am_call z _) r5b).trans ?_
      rw [am_call_s, am_toL]
      exact hZ
    have cA : C6 1 7 = 0 → am_G (am_ev (d + 60)) 91 [.ref 1] (C, Jc, (tc_R x), tc_S, 289, 11479) = some (none, ((am_u2 (am_u2 (am_u2 (am_u2 C6 (tc_P (!x) + 3 + 4) (N 4) u1) (tc_P (!x) + 1) 4 (nI (N 4 + 1))) (tc_P (!x) + 28) (N 4) u3) (tc_P (!x) + 29) (N 4) u5), Jc, (tc_R x), tc_S, 289, 11479)) := fun z => cc _ (by
      rw [b91_36, if_pos z]
      refine (congrArg (fun z => am_call z _) (c_add (Jc := Jc) (x := x) (qd := 4) (by omega) cNz (by omega) u1 (d + 58))).trans ?_
      (rw [am_call_s, am_toL, b91_53, if_pos hs, if_pos hs]; (try simp only [cs])))
    by_cases z8 : M6 0 8 = 0
    · have c7 := r5f.c7 z8
      have y5 := c7
      obtain ⟨z5, m5, e5a, e5b, e5c, e5d⟩ := r5g y5
      have y4 := r4f.c7 z5
      have z4 := r4g y4
      have z4 : M4 0 8 = 0 := (u2_c (by omega)).symm.trans z4
      have y3 := r3f.c7 z4
      obtain ⟨z3, m3, e3a, e3l, e3x, e3b⟩ := r3g y3
      have e3n : m3 < N 2 := by
        have e1 : M3 11 (xb (!x)) = nI (N 2) := by rw [r2d 11 _ (by omega), r1d 11 _ (by omega), b4 11 _ (by omega)]; exact (hP.1 2 (by omega)).2.1
        have e2 : Int32.toNatClampNeg (M3 11 (xb (!x))) = N 2 := by rw [e1]; exact nI_clamp (by have := (hP.1 2 (by omega)).2.2; have := mx30 2; omega)
        have e3 : m3 < Int32.toNatClampNeg (M3 11 (xb (!x))) := e3l
        omega
      have y2 := r2f.c7 z3
      have z2 := r2g y2
      have z2 : M2 0 8 = 0 := (rfl).symm.trans z2
      have y1 := r1f.c7 z2
      obtain ⟨z1, nmr⟩ := r1g y1
      have e3b := e3b z4
      have mA : am_G (am_ev (e + 10)) 194 [.ref 0] (M, J, tm_R, tm_S, 77, 21637) = some (none, ((am_u2 (am_u2 M6 25 (8 * xb (!x) + N 4) w5) 22 (xb (!x)) (nI (N 4 + 1))), J6, tm_R, tm_S, 77, 21637)) := mz _ (by
        (rw [b194_92, if_pos ii, if_pos z8, i51z, if_pos hin, if_pos hin]; (try simp only [ct]); (try simp only [cb]); rw [kcz, nI_1]))
      have rmA : RM (!x) M (am_u2 (am_u2 M6 25 (8 * xb (!x) + N 4) w5) 22 (xb (!x)) (nI (N 4 + 1))) := ((((((((b4.rm (y := !x)).tr r1d.rm).tr r2d.rm).tr r3d.rm).u (c := 24) (i := (8 * xb (!x) + N 4)) (by omega) (by omega) (show 8 * xb (!x) ≤ _ by omega) (show _ < 8 * xb (!x) + 8 by omega) w3).tr r4d.rm).tr r5d.rm).u (c := 25) (i := (8 * xb (!x) + N 4)) (by omega) (by omega) (show 8 * xb (!x) ≤ _ by omega) (show _ < 8 * xb (!x) + 8 by omega) w5).u (c := 22) (i := xb (!x)) (by omega) (by omega) (show 1 * xb (!x) ≤ _ by omega) (show _ < 1 * xb (!x) + 1 by omega) _
      refine ⟨(am_u2 (am_u2 (am_u2 (am_u2 C6 (tc_P (!x) + 3 + 4) (N 4) u1) (tc_P (!x) + 1) 4 (nI (N 4 + 1))) (tc_P (!x) + 28) (N 4) u3) (tc_P (!x) + 29) (N 4) u5), (am_u2 (am_u2 M6 25 (8 * xb (!x) + N 4) w5) 22 (xb (!x)) (nI (N 4 + 1))), J6, cA c7, mA, ((((tfC.rc (y := !x)).vv (c := tc_P (!x) + 3 + 4) (k := N 4) (by omega) u1).vv (c := tc_P (!x) + 1) (k := 4) (by omega) (nI (N 4 + 1))).vv (c := tc_P (!x) + 28) (k := N 4) (by omega) u3).vv (c := tc_P (!x) + 29) (k := N 4) (by omega) u5, rmA, ((((((b5.rj (y := !x)).tr r1e.rj).u (c := 23) (i := (8 * xb (!x) + N 4)) (by omega) (by omega) (show 8 * xb (!x) ≤ _ by omega) (show _ < 8 * xb (!x) + 8 by omega) w1).tr r2e.rj).tr r3e.rj).tr r4e.rj).tr r5e.rj, p + 1, by omega, ?_, fun _ => ⟨upN N 4, la, lb, ⟨?_, ?_, ?_⟩, by omega, by omega⟩⟩
      · exact ((((((r5f.uM (c := 25) (i := (8 * xb (!x) + N 4)) (by omega) w5).uM (c := 22) (i := xb (!x)) (by omega) (nI (N 4 + 1))).uC (c := tc_P (!x) + 3 + 4) (i := N 4) (by omega) u1).uC (c := tc_P (!x) + 1) (i := 4) (by omega) (nI (N 4 + 1))).uC (c := tc_P (!x) + 28) (i := N 4) (by omega) u3).uC (c := tc_P (!x) + 29) (i := N 4) (by omega) u5)
      · refine hP.1.up (by omega) hlt0 (fun i hi => ?_) (fun i hi => ?_)
        · have t0 : C6 (tc_P (!x) + 1) i = C (tc_P (!x) + 1) i := tfC _ _ (by omega)
          by_cases zi : i = 4
          · rw [u2_c (by omega), u2_c (by omega), u2_e rfl zi, if_pos zi]
          · rw [u2_c (by omega), u2_c (by omega), u2_p zi, u2_c (by omega), if_neg zi, t0]
        · have t0 : ∀ c, 2 ≤ c → (c ≠ 24 ∧ c ≠ 25) → (am_u2 M6 25 (8 * xb (!x) + N 4) w5) c (xb (!x)) = M c (xb (!x)) := fun c hc h => by
            rw [u2_c (by omega)]; exact fM c _ (by omega) (by omega)
          have c9 := cq9 hi
          by_cases zi : i = 4
          · subst zi
            rw [if_pos rfl]; exact u2_s
          · rw [if_neg zi, u2_c (show cqq i ≠ 22 from c9.2.2 4 (by omega) zi)]
            exact t0 _ c9.1 (by first | trivial | (have := c9.2.1; simp only [List.mem_cons, List.not_mem_nil, or_false] at this; omega))
      · refine PG.up (PG.fr hP.2.1 n2 (fun o k ho hk => ?_) (fun a k ha1 ha2 hk => ?_) ?_ (fun q k hq hk => ?_)) (by omega) ?_ (fun z => by omega) (fun z => by omega) (fun z => by omega) ?_ (fun z => by omega)
        · have t0 : C6 (tc_P (!x) + o) k = C (tc_P (!x) + o) k := tfC _ _ (by omega)
          by_cases z1 : o = 1
          · subst z1; exact absurd hk (Nat.not_lt_zero _)
          have key : (o = 7 ∨ o = 28 ∨ o = 29) → k < N 4 := by
            rintro (rfl | rfl | rfl) <;> exact hk
          rw [fr1 (orr (fun z2 z3 => by have := key (by omega); omega)), fr1 (orr (fun z2 z3 => by have := key (by omega); omega)), fr1 (Or.inl (by omega)), fr1 (orr (fun z2 z3 => by have := key (by omega); omega))]; exact t0
        · by_cases z1 : a = 22
          · subst z1; exact absurd hk (Nat.not_lt_zero _)
          have key : ∀ b, b = sdd a * xb (!x) + k → ¬ (a = 24 ∧ b = (8 * xb (!x) + N 4)) ∧ ¬ (a = 25 ∧ b = (8 * xb (!x) + N 4)) := by
            intro b hb
            refine ⟨?_, ?_⟩ <;> (rintro ⟨rfl, e2⟩; have hk : k < N 4 := hk; have hb : b = 8 * xb (!x) + k := hb; omega)
          rw [u2_c z1, fr1 (orr (fun z2 z3 => ((key _ rfl).2) ⟨z2, z3⟩)), fM a _ (by omega) ((key _ rfl).1)]
        · rw [u2_c (by omega), u2_c (by omega)]; exact fM 0 50 (by omega) (by omega)
        · have key : ¬ (jk q = 23 ∧ kx q * xb (!x) + k = (8 * xb (!x) + N 4)) := by
            rintro ⟨e1, e2⟩
            have e3 := jk_i hq (show 4 < 5 by omega) e1
            subst e3
            have e2 : 8 * xb (!x) + k = 8 * xb (!x) + N 4 := e2
            omega
          exact fJ _ _ (jk_0 hq) key
        · intro _
          rw [u2_c (by omega), u2_c (by omega), u2_c (by omega), u2_s]
          have e1 : J6 (jk 4) (kx 4 * xb (!x) + N 4) = w1 := by
            show J6 23 (8 * xb (!x) + N 4) = w1
            rw [r5e 23 _ (by omega), r4e 23 _ (by omega), r3e 23 _ (by omega), r2e 23 _ (by omega), u2_s]
          rw [e1]; exact nmr
        · intro _
          refine ⟨m3, m5, ?_, ?_, ?_, ?_, e3n, by omega, by omega⟩
          · rw [u2_c (by omega), u2_s]; exact e3a
          · rw [u2_s]; exact e5a
          · rw [u2_c (by omega), u2_c (by omega), r5d 24 _ (by omega), r4d 24 _ (by omega), u2_s]; exact e3b
          · rw [u2_c (by omega), u2_s]; exact e5b
      · rw [u2_c (by omega), u2_c (by omega)]; exact i51z
    · have mB : am_G (am_ev (e + 10)) 194 [.ref 0] (M, J, tm_R, tm_S, 77, 21637) = some (none, ((am_u2 M6 25 (8 * xb (!x) + N 4) w5), J6, tm_R, tm_S, 77, 21637)) := mz _ (by
        (rw [b194_92, if_pos ii, if_neg z8]; (try simp only [ct])))
      have n8 : ¬ (am_u2 M6 25 (8 * xb (!x) + N 4) w5) 0 8 = 0 := fun z => z8 ((u2_c (by omega)).symm.trans z)
      by_cases c7 : C6 1 7 = 0
      · exact ⟨(am_u2 (am_u2 (am_u2 (am_u2 C6 (tc_P (!x) + 3 + 4) (N 4) u1) (tc_P (!x) + 1) 4 (nI (N 4 + 1))) (tc_P (!x) + 28) (N 4) u3) (tc_P (!x) + 29) (N 4) u5), (am_u2 M6 25 (8 * xb (!x) + N 4) w5), J6, cA c7, mB, ((((tfC.rc (y := !x)).vv (c := tc_P (!x) + 3 + 4) (k := N 4) (by omega) u1).vv (c := tc_P (!x) + 1) (k := 4) (by omega) (nI (N 4 + 1))).vv (c := tc_P (!x) + 28) (k := N 4) (by omega) u3).vv (c := tc_P (!x) + 29) (k := N 4) (by omega) u5, (((((((b4.rm (y := !x)).tr r1d.rm).tr r2d.rm).tr r3d.rm).u (c := 24) (i := (8 * xb (!x) + N 4)) (by omega) (by omega) (show 8 * xb (!x) ≤ _ by omega) (show _ < 8 * xb (!x) + 8 by omega) w3).tr r4d.rm).tr r5d.rm).u (c := 25) (i := (8 * xb (!x) + N 4)) (by omega) (by omega) (show 8 * xb (!x) ≤ _ by omega) (show _ < 8 * xb (!x) + 8 by omega) w5, ((((((b5.rj (y := !x)).tr r1e.rj).u (c := 23) (i := (8 * xb (!x) + N 4)) (by omega) (by omega) (show 8 * xb (!x) ≤ _ by omega) (show _ < 8 * xb (!x) + 8 by omega) w1).tr r2e.rj).tr r3e.rj).tr r4e.rj).tr r5e.rj, p + 1, by omega, (((((r5f.uM (c := 25) (i := (8 * xb (!x) + N 4)) (by omega) w5).uC (c := tc_P (!x) + 3 + 4) (i := N 4) (by omega) u1).uC (c := tc_P (!x) + 1) (i := 4) (by omega) (nI (N 4 + 1))).uC (c := tc_P (!x) + 28) (i := N 4) (by omega) u3).uC (c := tc_P (!x) + 29) (i := N 4) (by omega) u5), fun z => absurd z n8⟩
      · exact ⟨C6, (am_u2 M6 25 (8 * xb (!x) + N 4) w5), J6, cc _ (by rw [b91_36, if_neg c7]), mB, tfC.rc, (((((((b4.rm (y := !x)).tr r1d.rm).tr r2d.rm).tr r3d.rm).u (c := 24) (i := (8 * xb (!x) + N 4)) (by omega) (by omega) (show 8 * xb (!x) ≤ _ by omega) (show _ < 8 * xb (!x) + 8 by omega) w3).tr r4d.rm).tr r5d.rm).u (c := 25) (i := (8 * xb (!x) + N 4)) (by omega) (by omega) (show 8 * xb (!x) ≤ _ by omega) (show _ < 8 * xb (!x) + 8 by omega) w5, ((((((b5.rj (y := !x)).tr r1e.rj).u (c := 23) (i := (8 * xb (!x) + N 4)) (by omega) (by omega) (show 8 * xb (!x) ≤ _ by omega) (show _ < 8 * xb (!x) + 8 by omega) w1).tr r2e.rj).tr r3e.rj).tr r4e.rj).tr r5e.rj, p + 1, by omega, (r5f.uM (c := 25) (i := (8 * xb (!x) + N 4)) (by omega) w5), fun z => absurd z n8⟩
  · obtain ⟨rfl, bd1⟩ := b8 h8
    obtain ⟨D1, u1, t1a, t1b, t1c, t1d⟩ := bd1.nn (Jc := Jc) (x := x) (d + 57)
    obtain ⟨D2, t2a, t2b, t2c, t2d⟩ := t1c.tk (Jc := Jc) (x := x) (c := 3) (by decide) 4 (d + 57)
    obtain ⟨D3, u3, t3a, t3b, t3c, t3d⟩ := t2c.tt (Jc := Jc) (x := x) 2 (d + 57)
    obtain ⟨D4, t4a, t4b, t4c, t4d⟩ := t3c.tk (Jc := Jc) (x := x) (c := 3) (by decide) 13 (d + 57)
    obtain ⟨D5, u5, t5a, t5b, t5c, t5d⟩ := t4c.tn (Jc := Jc) (x := x) 1 99 (d + 57)
    have tfD : TF C D5 := (((((b3.tr t1b).tr t2b).tr t3b).tr t4b).tr t5b)
    refine ⟨D5, M1, J1, ?_, ?_, tfD.rc, b4.rm, b5.rj, p + 1, by omega, ⟨g.1.1.tf tfD b4, g.1.2.2.2.2.2.fr (fun b => tfD 2 b (fun z => by omega)), Or.inr t5c⟩, fun z => absurd z h8⟩
    · refine (b91_0 _ _ _ _).trans ((congrArg (fun z => am_call z _) b1).trans ?_)
      rw [am_call_s, am_toN, b91_5]
      refine (congrArg (fun z => am_call z _) t1a).trans ?_
      rw [am_call_s, am_toL, b91_9]
      refine (congrArg (fun z => am_call z _) t2a).trans ?_
      rw [am_call_s, am_toN, b91_16]
      refine (congrArg (fun z => am_call z _) t3a).trans ?_
      rw [am_call_s, am_toL, b91_21]
      refine (congrArg (fun z => am_call z _) t4a).trans ?_
      rw [am_call_s, am_toN, b91_29]
      refine (congrArg (fun z => am_call z _) t5a).trans ?_
      rw [am_call_s, am_toL, b91_36, if_neg t5d]
    · rw [m0, b194_23, if_pos rfl]
theorem st_order (g : Gd T n C M J p q k v w) (hk : k = 3) (hP : PL x N la lb C M J) (hla : la ≤ p) (hlb : lb ≤ p) (d e : Nat) : Stm x T n 92 195 p C M J Jc d e := by
  have hb1 := xb1 (!x)
  have hy := tc_P4 (!x)
  have nk : N 5 ≤ 8 := (hP.1 5 (by omega)).2.2
  have n2 : N 2 ≤ 6 := (hP.1 2 (by omega)).2.2
  have i51 : M 0 51 = nI (xb (!x)) := hP.2.2
  have hin : am_in (nI (xb (!x))) 2 := nI_in (by omega) (by omega)
  have cb : Int32.toNatClampNeg (nI (xb (!x))) = xb (!x) := nI_clamp (by omega)
  have kc1 : M 26 (xb (!x)) = nI (N 5) := (hP.1 5 (by omega)).2.1
  obtain ⟨C1, M1, J1, s, b1, b2, b3, b4, b5, b6, b7, b8⟩ := g.beg (Jc := Jc) hk hP (kd := 5) (by omega) (d + 56) (e + 6)
  have m0 : am_G (am_ev (e + 10)) 195 [.ref 0] (M, J, tm_R, tm_S, 77, 21637) = am_ev (e + 10) 195 23 [.ref 0, am_un] [.int s] (M1, J1, tm_R, tm_S, 77, 21637) := by
    (rw [b195_0, i51, if_pos hin]; (try simp only [cb]); rw [kc1])
    rcases b2 with ⟨z, b2⟩ | ⟨z, b2⟩
    · have z : N 5 = 8 := z
      rw [if_pos (by rw [z]; rfl), b2, am_call_s, am_toL]
    · have z : N 5 < 8 := z
      rw [if_neg (neR (c := 8) 8 rfl (by omega) (by omega) (by omega)), b2, am_call_s, am_toL]
  by_cases h8 : M1 0 8 = 0
  · obtain ⟨rfl, hlt0⟩ := b7 h8
    have hlt : N 5 < 8 := hlt0
    have i51a : M1 0 51 = nI (xb (!x)) := (b4 0 51 (by omega)).trans i51
    have kca : M1 26 (xb (!x)) = nI (N 5) := (b4 26 _ (by omega)).trans kc1
    have ix : (8 : Int32) * nI (xb (!x)) + nI (N 5) = nI (8 * xb (!x) + N 5) := nI_ix 8 _ _
    have ii : am_in (nI (8 * xb (!x) + N 5)) 16 := nI_in (by omega) (by omega)
    have ct : Int32.toNatClampNeg (nI (8 * xb (!x) + N 5)) = (8 * xb (!x) + N 5) := nI_clamp (by omega)
    have nm0 : Nm (!x) C1 M1 J1 := hP.nm.tf b3 b4 b5
    obtain ⟨C2, M2, J2, u1, w1, r1a, r1b, r1c, r1d, r1e, r1f, r1g⟩ := Sy.asked (Jc := Jc) (x := x) b6 nm0 (kd := 2) (by omega) (d + 56) (e + 6)
    have nm1 : Nm (!x) C2 M2 J2 := nm0.tf r1c r1d r1e
    have s1 := r1f.uM (c := 27) (i := (8 * xb (!x) + N 5)) (by omega) w1
    have nm1s := nm1.uM (c := 27) (i := (8 * xb (!x) + N 5)) (by omega) (by omega) (by omega) (by omega) (by omega) (by omega) (by omega) (by omega) (by omega) (by omega) w1
    obtain ⟨C3, M3, J3, u2, w2, r2a, r2b, r2c, r2d, r2e, r2f, r2g⟩ := Sy.num (Jc := Jc) (x := x) s1 (a := 1) (a' := 1) (b := 60) (l0 := 1) (hi := 60) rfl (by omega) (fun _ => ⟨rfl, rfl, by omega⟩) (d + 56) (e + 6)
    have nm2 : Nm (!x) C3 M3 J3 := nm1s.tf r2c r2d r2e
    have s2 := r2f.uM (c := 28) (i := (8 * xb (!x) + N 5)) (by omega) w2
    have nm2s := nm2.uM (c := 28) (i := (8 * xb (!x) + N 5)) (by omega) (by omega) (by omega) (by omega) (by omega) (by omega) (by omega) (by omega) (by omega) (by omega) w2
    obtain ⟨C4, M4, J4, r3a, r3b, r3c, r3d, r3e, r3f, r3g⟩ := Sy.must (Jc := Jc) (x := x) s2 (j := 15) (by omega) (c := 25209) (by decide) (d + 56) (e + 6)
    have nm3 : Nm (!x) C4 M4 J4 := nm2s.tf r3c r3d r3e
    obtain ⟨C5, M5, J5, u4, w4, r4a, r4b, r4c, r4d, r4e, r4f, r4g⟩ := Sy.num (Jc := Jc) (x := x) r3f (a := 0) (a' := 0) (b := 9999) (l0 := 0) (hi := 9999) rfl (by omega) (fun _ => ⟨rfl, rfl, by omega⟩) (d + 56) (e + 6)
    have nm4 : Nm (!x) C5 M5 J5 := nm3.tf r4c r4d r4e
    have tfC : TF C C5 := ((((b3.tr r1c).tr r2c).tr r3c).tr r4c)
    have fM : ∀ a j, (a = 0 → j < 3 ∨ 9 < j) → ¬ (a = 27 ∧ j = (8 * xb (!x) + N 5)) → ¬ (a = 28 ∧ j = (8 * xb (!x) + N 5)) → M5 a j = M a j := fun a j h0 h1 h2 => by rw [r4d a j h0, r3d a j h0, fr1 (orr (fun z1 z2 => h2 ⟨z1, z2⟩)), r2d a j h0, fr1 (orr (fun z1 z2 => h1 ⟨z1, z2⟩)), r1d a j h0, b4 a j h0]
    have fJ : ∀ a j, (a = 0 → j ≠ 7) → J5 a j = J a j := fun a j h0  => by rw [r4e a j h0, r3e a j h0, r2e a j h0, r1e a j h0, b5 a j h0]
    have i51z : M5 0 51 = nI (xb (!x)) := (fM 0 51 (by omega) (by omega) (by omega)).trans i51
    have kcz : M5 26 (xb (!x)) = nI (N 5) := (fM 26 _ (by omega) (by omega) (by omega)).trans kc1
    have cN : C (tc_P (!x) + 1) 5 = nI (N 5) := (hP.1 5 (by omega)).1
    have cNz : C5 (tc_P (!x) + 1) 5 = nI (N 5) := (tfC _ _ (by omega)).trans cN
    have cs : Int32.toNatClampNeg (nI (N 5)) = N 5 := nI_clamp (by omega)
    have hs : am_in (nI (N 5)) 8 := nI_in (by omega) (by omega)
    have cc : ∀ Z, am_ev (d + 60) 92 34 [.ref 1, .int u1, .int u2, am_un, am_un] [.int u4] (C5, Jc, (tc_R x), tc_S, 289, 11479) = Z → am_G (am_ev (d + 60)) 92 [.ref 1] (C, Jc, (tc_R x), tc_S, 289, 11479) = Z := by
      intro Z hZ
      refine (b92_0 _ _ _ _).trans ((congrArg (fun z => am_call z _) b1).trans ?_)
      rw [am_call_s, am_toN, b92_5]
      refine (congrArg (fun z => am_call z _) r1a).trans ?_
      rw [am_call_s, am_toL, b92_10]
      refine (congrArg (fun z => am_call z _) r2a).trans ?_
      rw [am_call_s, am_toL, b92_18]
      refine (congrArg (fun z => am_call z _) r3a).trans ?_
      rw [am_call_s, am_toN, b92_26]
      refine (congrArg (fun z => am_call z _) r4a).trans ?_
      rw [am_call_s, am_toL]
      exact hZ
    have mz : ∀ Z, am_ev (e + 10) 195 89 [.ref 0, .int (nI (8 * xb (!x) + N 5))] [.int w4, .int (nI (8 * xb (!x) + N 5)), .ref 29] (M5, J5, tm_R, tm_S, 77, 21637) = Z → am_G (am_ev (e + 10)) 195 [.ref 0] (M, J, tm_R, tm_S, 77, 21637) = Z := by
      intro Z hZ
      (rw [m0, b195_23, if_neg (by decide : ¬ (1 : Int32) = 0), i51a, if_pos hin]; (try simp only [cb]); rw [kca, ix])
      refine (congrArg (fun z => am_call z _) r1b).trans ?_
      (rw [am_call_s, am_toL, b195_55, if_pos ii]; (try simp only [ct]))
      refine (congrArg (fun z => am_call z _) r2b).trans ?_
      (rw [am_call_s, am_toL, b195_68, if_pos ii]; (try simp only [ct]))
      refine (congrArg (fun z => am_call z _) r3b).trans ?_
      rw [am_call_s, am_toN, b195_76]
      refine (congrArg (fun z => am_call z _) r4b).trans ?_
      rw [am_call_s, am_toL]
      exact hZ
    have cA : C5 1 7 = 0 → am_G (am_ev (d + 60)) 92 [.ref 1] (C, Jc, (tc_R x), tc_S, 289, 11479) = some (none, ((am_u2 (am_u2 (am_u2 (am_u2 C5 (tc_P (!x) + 30) (N 5) u1) (tc_P (!x) + 31) (N 5) u2) (tc_P (!x) + 32) (N 5) u4) (tc_P (!x) + 1) 5 (nI (N 5 + 1))), Jc, (tc_R x), tc_S, 289, 11479)) := fun z => cc _ (by
      have c5 : Int32.toNatClampNeg (5 : Int32) = 5 := by decide +kernel
      have i9 : am_in (5 : Int32) 9 := by decide +kernel
      rw [b92_34, if_pos z, if_pos i9]
      (simp only [c5, cNz])
      rw [if_pos hs, if_pos hs, if_pos hs, if_pos i9, if_pos i9]
      (simp only [cs])
      rw [nI_1])
    by_cases z8 : M5 0 8 = 0
    · have c7 := r4f.c7 z8
      have y4 := c7
      obtain ⟨z4, m4, e4a, e4b, e4c, e4d⟩ := r4g y4
      have y3 := r3f.c7 z4
      have z3 := r3g y3
      have z3 : M3 0 8 = 0 := (u2_c (by omega)).symm.trans z3
      have y2 := r2f.c7 z3
      obtain ⟨z2, m2, e2a, e2b, e2c, e2d⟩ := r2g y2
      have z2 : M2 0 8 = 0 := (u2_c (by omega)).symm.trans z2
      have y1 := r1f.c7 z2
      obtain ⟨z1, m1, e1a, e1l, e1x, e1b⟩ := r1g y1
      have e1n : m1 < N 2 := by
        have e1 : M1 11 (xb (!x)) = nI (N 2) := by rw [b4 11 _ (by omega)]; exact (hP.1 2 (by omega)).2.1
        have e2 : Int32.toNatClampNeg (M1 11 (xb (!x))) = N 2 := by rw [e1]; exact nI_clamp (by have := (hP.1 2 (by omega)).2.2; have := mx30 2; omega)
        have e3 : m1 < Int32.toNatClampNeg (M1 11 (xb (!x))) := e1l
        omega
      have e1b := e1b z2
      have mA : am_G (am_ev (e + 10)) 195 [.ref 0] (M, J, tm_R, tm_S, 77, 21637) = some (none, ((am_u2 (am_u2 M5 29 (8 * xb (!x) + N 5) w4) 26 (xb (!x)) (nI (N 5 + 1))), J5, tm_R, tm_S, 77, 21637)) := mz _ (by
        (rw [b195_89, if_pos ii, if_pos z8, i51z, if_pos hin, if_pos hin]; (try simp only [ct]); (try simp only [cb]); rw [kcz, nI_1]))
      have rmA : RM (!x) M (am_u2 (am_u2 M5 29 (8 * xb (!x) + N 5) w4) 26 (xb (!x)) (nI (N 5 + 1))) := ((((((((b4.rm (y := !x)).tr r1d.rm).u (c := 27) (i := (8 * xb (!x) + N 5)) (by omega) (by omega) (show 8 * xb (!x) ≤ _ by omega) (show _ < 8 * xb (!x) + 8 by omega) w1).tr r2d.rm).u (c := 28) (i := (8 * xb (!x) + N 5)) (by omega) (by omega) (show 8 * xb (!x) ≤ _ by omega) (show _ < 8 * xb (!x) + 8 by omega) w2).tr r3d.rm).tr r4d.rm).u (c := 29) (i := (8 * xb (!x) + N 5)) (by omega) (by omega) (show 8 * xb (!x) ≤ _ by omega) (show _ < 8 * xb (!x) + 8 by omega) w4).u (c := 26) (i := xb (!x)) (by omega) (by omega) (show 1 * xb (!x) ≤ _ by omega) (show _ < 1 * xb (!x) + 1 by omega) _
      refine ⟨(am_u2 (am_u2 (am_u2 (am_u2 C5 (tc_P (!x) + 30) (N 5) u1) (tc_P (!x) + 31) (N 5) u2) (tc_P (!x) + 32) (N 5) u4) (tc_P (!x) + 1) 5 (nI (N 5 + 1))), (am_u2 (am_u2 M5 29 (8 * xb (!x) + N 5) w4) 26 (xb (!x)) (nI (N 5 + 1))), J5, cA c7, mA, (((((tfC.rc (y := !x))).vv (c := tc_P (!x) + 30) (k := N 5) (by omega) u1).vv (c := tc_P (!x) + 31) (k := N 5) (by omega) u2).vv (c := tc_P (!x) + 32) (k := N 5) (by omega) u4).vv (c := tc_P (!x) + 1) (k := 5) (by omega) (nI (N 5 + 1)), rmA, ((((b5.rj (y := !x)).tr r1e.rj).tr r2e.rj).tr r3e.rj).tr r4e.rj, p + 1, by omega, ?_, fun _ => ⟨upN N 5, la, lb, ⟨?_, ?_, ?_⟩, by omega, by omega⟩⟩
      · exact ((((((r4f.uM (c := 29) (i := (8 * xb (!x) + N 5)) (by omega) w4).uM (c := 26) (i := xb (!x)) (by omega) (nI (N 5 + 1))).uC (c := tc_P (!x) + 30) (i := N 5) (by omega) u1).uC (c := tc_P (!x) + 31) (i := N 5) (by omega) u2).uC (c := tc_P (!x) + 32) (i := N 5) (by omega) u4).uC (c := tc_P (!x) + 1) (i := 5) (by omega) (nI (N 5 + 1)))
      · refine hP.1.up (by omega) hlt0 (fun i hi => ?_) (fun i hi => ?_)
        · have t0 : C5 (tc_P (!x) + 1) i = C (tc_P (!x) + 1) i := tfC _ _ (by omega)
          by_cases zi : i = 5
          · rw [u2_e rfl zi, if_pos zi]
          · rw [u2_p zi, u2_c (by omega), u2_c (by omega), u2_c (by omega), if_neg zi, t0]
        · have t0 : ∀ c, 2 ≤ c → (c ≠ 27 ∧ c ≠ 28 ∧ c ≠ 29) → (am_u2 M5 29 (8 * xb (!x) + N 5) w4) c (xb (!x)) = M c (xb (!x)) := fun c hc h => by
            rw [u2_c (by omega)]; exact fM c _ (by omega) (by omega) (by omega)
          have c9 := cq9 hi
          by_cases zi : i = 5
          · subst zi
            rw [if_pos rfl]; exact u2_s
          · rw [if_neg zi, u2_c (show cqq i ≠ 26 from c9.2.2 5 (by omega) zi)]
            exact t0 _ c9.1 (by first | trivial | (have := c9.2.1; simp only [List.mem_cons, List.not_mem_nil, or_false] at this; omega))
      · refine PG.up (PG.fr hP.2.1 n2 (fun o k ho hk => ?_) (fun a k ha1 ha2 hk => ?_) ?_ (fun q k hq hk => ?_)) (by omega) (fun z => by omega) (fun z => by omega) (fun z => by omega) (fun z => by omega) (fun z => by omega) ?_
        · have t0 : C5 (tc_P (!x) + o) k = C (tc_P (!x) + o) k := tfC _ _ (by omega)
          by_cases z1 : o = 1
          · subst z1; exact absurd hk (Nat.not_lt_zero _)
          have key : (o = 30 ∨ o = 31 ∨ o = 32) → k < N 5 := by
            rintro (rfl | rfl | rfl) <;> exact hk
          rw [fr1 (Or.inl (by omega)), fr1 (orr (fun z2 z3 => by have := key (by omega); omega)), fr1 (orr (fun z2 z3 => by have := key (by omega); omega)), fr1 (orr (fun z2 z3 => by have := key (by omega); omega))]; exact t0
        · by_cases z1 : a = 26
          · subst z1; exact absurd hk (Nat.not_lt_zero _)
          have key : ∀ b, b = sdd a * xb (!x) + k → ¬ (a = 27 ∧ b = (8 * xb (!x) + N 5)) ∧ ¬ (a = 28 ∧ b = (8 * xb (!x) + N 5)) ∧ ¬ (a = 29 ∧ b = (8 * xb (!x) + N 5)) := by
            intro b hb
            refine ⟨?_, ?_, ?_⟩ <;> (rintro ⟨rfl, e2⟩; have hk : k < N 5 := hk; have hb : b = 8 * xb (!x) + k := hb; omega)
          rw [u2_c z1, fr1 (orr (fun z2 z3 => ((key _ rfl).2.2) ⟨z2, z3⟩)), fM a _ (by omega) ((key _ rfl).1) ((key _ rfl).2.1)]
        · rw [u2_c (by omega), u2_c (by omega)]; exact fM 0 50 (by omega) (by omega) (by omega)
        · exact fJ _ _ (jk_0 hq)
        · intro _
          refine ⟨m1, m2, m4, ?_, ?_, ?_, ?_, ?_, ?_, e1n, by omega, by omega, by omega⟩
          · rw [u2_c (by omega), u2_c (by omega), u2_c (by omega), u2_s]; exact e1a
          · rw [u2_c (by omega), u2_c (by omega), u2_s]; exact e2a
          · rw [u2_c (by omega), u2_s]; exact e4a
          · rw [u2_c (by omega), u2_c (by omega), r4d 27 _ (by omega), r3d 27 _ (by omega), u2_c (by omega), r2d 27 _ (by omega), u2_s]; exact e1b
          · rw [u2_c (by omega), u2_c (by omega), r4d 28 _ (by omega), r3d 28 _ (by omega), u2_s]; exact e2b
          · rw [u2_c (by omega), u2_s]; exact e4b
      · rw [u2_c (by omega), u2_c (by omega)]; exact i51z
    · have mB : am_G (am_ev (e + 10)) 195 [.ref 0] (M, J, tm_R, tm_S, 77, 21637) = some (none, ((am_u2 M5 29 (8 * xb (!x) + N 5) w4), J5, tm_R, tm_S, 77, 21637)) := mz _ (by
        (rw [b195_89, if_pos ii, if_neg z8]; (try simp only [ct])))
      have n8 : ¬ (am_u2 M5 29 (8 * xb (!x) + N 5) w4) 0 8 = 0 := fun z => z8 ((u2_c (by omega)).symm.trans z)
      by_cases c7 : C5 1 7 = 0
      · exact ⟨(am_u2 (am_u2 (am_u2 (am_u2 C5 (tc_P (!x) + 30) (N 5) u1) (tc_P (!x) + 31) (N 5) u2) (tc_P (!x) + 32) (N 5) u4) (tc_P (!x) + 1) 5 (nI (N 5 + 1))), (am_u2 M5 29 (8 * xb (!x) + N 5) w4), J5, cA c7, mB, (((((tfC.rc (y := !x))).vv (c := tc_P (!x) + 30) (k := N 5) (by omega) u1).vv (c := tc_P (!x) + 31) (k := N 5) (by omega) u2).vv (c := tc_P (!x) + 32) (k := N 5) (by omega) u4).vv (c := tc_P (!x) + 1) (k := 5) (by omega) (nI (N 5 + 1)), (((((((b4.rm (y := !x)).tr r1d.rm).u (c := 27) (i := (8 * xb (!x) + N 5)) (by omega) (by omega) (show 8 * xb (!x) ≤ _ by omega) (show _ < 8 * xb (!x) + 8 by omega) w1).tr r2d.rm).u (c := 28) (i := (8 * xb (!x) + N 5)) (by omega) (by omega) (show 8 * xb (!x) ≤ _ by omega) (show _ < 8 * xb (!x) + 8 by omega) w2).tr r3d.rm).tr r4d.rm).u (c := 29) (i := (8 * xb (!x) + N 5)) (by omega) (by omega) (show 8 * xb (!x) ≤ _ by omega) (show _ < 8 * xb (!x) + 8 by omega) w4, ((((b5.rj (y := !x)).tr r1e.rj).tr r2e.rj).tr r3e.rj).tr r4e.rj, p + 1, by omega, (((((r4f.uM (c := 29) (i := (8 * xb (!x) + N 5)) (by omega) w4).uC (c := tc_P (!x) + 30) (i := N 5) (by omega) u1).uC (c := tc_P (!x) + 31) (i := N 5) (by omega) u2).uC (c := tc_P (!x) + 32) (i := N 5) (by omega) u4).uC (c := tc_P (!x) + 1) (i := 5) (by omega) (nI (N 5 + 1))), fun z => absurd z n8⟩
      · exact ⟨C5, (am_u2 M5 29 (8 * xb (!x) + N 5) w4), J5, cc _ (by rw [b92_34, if_neg c7]), mB, tfC.rc, (((((((b4.rm (y := !x)).tr r1d.rm).u (c := 27) (i := (8 * xb (!x) + N 5)) (by omega) (by omega) (show 8 * xb (!x) ≤ _ by omega) (show _ < 8 * xb (!x) + 8 by omega) w1).tr r2d.rm).u (c := 28) (i := (8 * xb (!x) + N 5)) (by omega) (by omega) (show 8 * xb (!x) ≤ _ by omega) (show _ < 8 * xb (!x) + 8 by omega) w2).tr r3d.rm).tr r4d.rm).u (c := 29) (i := (8 * xb (!x) + N 5)) (by omega) (by omega) (show 8 * xb (!x) ≤ _ by omega) (show _ < 8 * xb (!x) + 8 by omega) w4, ((((b5.rj (y := !x)).tr r1e.rj).tr r2e.rj).tr r3e.rj).tr r4e.rj, p + 1, by omega, (r4f.uM (c := 29) (i := (8 * xb (!x) + N 5)) (by omega) w4), fun z => absurd z n8⟩
  · obtain ⟨rfl, bd1⟩ := b8 h8
    obtain ⟨D1, u1, t1a, t1b, t1c, t1d⟩ := bd1.tt (Jc := Jc) (x := x) 2 (d + 57)
    obtain ⟨D2, u2, t2a, t2b, t2c, t2d⟩ := t1c.tn (Jc := Jc) (x := x) 1 60 (d + 57)
    obtain ⟨D3, t3a, t3b, t3c, t3d⟩ := t2c.tk (Jc := Jc) (x := x) (c := 3) (by decide) 15 (d + 57)
    obtain ⟨D4, u4, t4a, t4b, t4c, t4d⟩ := t3c.tn (Jc := Jc) (x := x) 0 9999 (d + 57)
    have tfD : TF C D4 := ((((b3.tr t1b).tr t2b).tr t3b).tr t4b)
    refine ⟨D4, M1, J1, ?_, ?_, tfD.rc, b4.rm, b5.rj, p + 1, by omega, ⟨g.1.1.tf tfD b4, g.1.2.2.2.2.2.fr (fun b => tfD 2 b (fun z => by omega)), Or.inr t4c⟩, fun z => absurd z h8⟩
    · refine (b92_0 _ _ _ _).trans ((congrArg (fun z => am_call z _) b1).trans ?_)
      rw [am_call_s, am_toN, b92_5]
      refine (congrArg (fun z => am_call z _) t1a).trans ?_
      rw [am_call_s, am_toL, b92_10]
      refine (congrArg (fun z => am_call z _) t2a).trans ?_
      rw [am_call_s, am_toL, b92_18]
      refine (congrArg (fun z => am_call z _) t3a).trans ?_
      rw [am_call_s, am_toN, b92_26]
      refine (congrArg (fun z => am_call z _) t4a).trans ?_
      rw [am_call_s, am_toL, b92_34, if_neg t4d]
    · rw [m0, b195_23, if_pos rfl]
end STM
