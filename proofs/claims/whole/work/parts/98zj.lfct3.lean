/-! LAWS: two sums compared; a fact, whole -/
section LF3
variable {T : Nat → Nat} {n p q k v o h la lb m fk ph op bs r i : Nat} {w : List Nat} {x : Bool} {C M C' M' C1 M1 C2 M2 : tI} {J J' J1 J2 Jc : tJ} {A B A2 B2 : List (Nat × Int)} {R R2 Q : List Nat} {e : Nat} {p1 q1 k1 v1 : Nat} {w1 : List Nat}
theorem cmpY (hv : v = 60 ∨ v = 62 ∨ v = 61) (g : Gd T n C M J p q 5 v w) (d : Nat) (e1 : am_G (am_ev (d + 2)) 76 [.ref 1] (C, Jc, (tc_R x), tc_S, 289, 11479) = some (none, (C', Jc, (tc_R x), tc_S, 289, 11479))) : am_G (am_ev (d + 3)) 99 [.ref 1] (C, Jc, (tc_R x), tc_S, 289, 11479) = some (some (.int (nI v)), (C', Jc, (tc_R x), tc_S, 289, 11479)) := by
  have y5 : C 1 4 = 5 := (g.ke (j := 5) rfl (by omega)).mpr rfl
  rw [b99_0, if_pos y5, (g.t5 rfl).2.1]
  rcases hv with rfl | rfl | rfl
  · rw [if_pos (by decide : nI 60 = 60), e1, am_call_s, am_toN, b99_35, b99_47]
  · rw [if_neg (by decide : ¬ nI 62 = 60), if_pos (by decide : nI 62 = 62), e1, am_call_s, am_toN, b99_35, b99_47]
  · rw [if_neg (by decide : ¬ nI 61 = 60), if_neg (by decide : ¬ nI 61 = 62), if_pos (by decide : nI 61 = 61), e1, am_call_s, am_toN, b99_35, b99_47]
theorem cmpN (g : Gd T n C M J p q k v w) (n1 : ¬ (k = 5 ∧ v = 60)) (n2 : ¬ (k = 5 ∧ v = 62)) (n3 : ¬ (k = 5 ∧ v = 61)) (d : Nat) : am_G (am_ev (d + 2)) 99 [.ref 1] (C, Jc, (tc_R x), tc_S, 289, 11479) = some (some (.int (C 1 5)), (Fc C 1 p, Jc, (tc_R x), tc_S, 289, 11479)) := by
  have j1 : am_G (am_ev (d + 1)) 75 [.ref 1, .int 1, .int (C 1 6)] (C, Jc, (tc_R x), tc_S, 289, 11479) = some (none, (Fc C 1 p, Jc, (tc_R x), tc_S, 289, 11479)) := g.failC d 1
  rw [b99_0]
  by_cases z : k = 5
  · have y5 : C 1 4 = 5 := (g.ke (j := 5) rfl (by omega)).mpr z
    obtain ⟨h1, h2, _⟩ := g.t5 z
    have hb := sgs_b v h1
    rw [if_pos y5, if_neg (by rw [h2]; exact fun y => n1 ⟨z, (nI_eq (b := 60) (by omega) (by omega)).mp y⟩), if_neg (by rw [h2]; exact fun y => n2 ⟨z, (nI_eq (b := 62) (by omega) (by omega)).mp y⟩), if_neg (by rw [h2]; exact fun y => n3 ⟨z, (nI_eq (b := 61) (by omega) (by omega)).mp y⟩), j1, am_call_s, am_toN, b99_47]
  · have y5 : ¬ C 1 4 = 5 := fun y => z ((g.ke (j := 5) rfl (by omega)).mp y)
    rw [if_neg y5, j1, am_call_s, am_toN, b99_47]
theorem fct_cm (ho : o + h = 8) (b : Fr x o fk 0 bs la lb m C M) (hs : Stq M bs m 3) (hfk : fk = 1 ∨ fk = 5) (hla : la ≤ p) (hlb : lb ≤ p) (a1 : Acc T n x o la lb m C M J C1 M1 J1 [] [] (List.replicate i 22) p1 q1 k1 v1 w1 0 0) (lp1 : p + i ≤ p1) (lm1 : 4 * (m + i) ≤ p1 + 24 * o + 16) (n1 : ¬ (k1 = 3 ∧ v1 = 23)) (n2 : ¬ (k1 = 5 ∧ v1 = 91)) (n3 : ¬ (k1 = 3 ∧ v1 = 24)) (d : Nat) : Out e x C M J Jc (am_call (am_G (am_ev (d + 4 * h + 7)) 79 [.ref 1, .int 5, .int 91] (C1, Jc, (tc_R x), tc_S, 289, 11479)) (fun r M => am_ev (d + 4 * h + 8) 98 48 [.ref 1, .int (nI o), .int (nI (i % 2)), .int (nI i)] (r.toList ++ []) M)) (Lp e M1 J1) (Tr T n x o la lb m p 3 (3 * h + 4) NA C M J) := by
  have f : Fr x o fk 0 bs la lb (m + i) C1 M1 := by
    have f := a1.fr b
    rw [List.length_replicate] at f
    exact f
  have g1 := a1.1
  have rt := a1.2.2.1
  have pn1 := g1.pn
  have hs5 := stp22 b hs a1
  obtain ⟨C2, M2, J2, c2, hh⟩ := sums (T := T) (n := n) (x := x) (Jc := Jc) h o ho fk 0 bs la lb (m + i) p1 q1 k1 v1 w1 C1 M1 J1 d e g1 f a1.2.2.2.2.2.2 (by omega) (by omega) (by omega) (Or.inr (Or.inr ⟨n1, n2, n3⟩)) (by omega) (by omega) hs5
  rw [g1.csN (c := 91) 91 rfl (by decide) n2, am_call_s, am_toL, b98_48, if_pos rfl, g1.cwN (c := 24) 24 rfl (by omega) n3, am_call_s, am_toL, b98_85, if_pos rfl, c2, am_call_s, am_toN]
  rcases hh with ⟨l2, A, B, R, p2, q2, k2, v2, w2, a2, lA, lB, lp, hR, hl, hE, hN, y41⟩ | ⟨l2, bx⟩
  · have pn2 := a2.1.pn
    have f2 := a2.fr f
    by_cases z : k2 = 5 ∧ (v2 = 60 ∨ v2 = 62 ∨ v2 = 61)
    · obtain ⟨rfl, hv⟩ := z
      have hpq := a2.1.pq (by omega)
      obtain ⟨cm1, cm2, cm3, cm4⟩ := cms hv
      obtain ⟨C3, M3, J3, c3, fin⟩ := a2.cm (e := e) (Jc := Jc) f hfk (by omega) hv hs5 hR (by omega) (by omega) (by omega) (by omega) (d + 4 * h + 4)
      rw [b98_112, cmpY hv a2.1 (d + 4 * h + 4) c3, am_call_s, am_toL, b98_116]
      rcases fin with ⟨l3, z41, p3, q3, k3, v3, w3, z3, a3⟩ | ⟨l3, bx⟩
      · have f3 := a3.fr f
        have pn3 := a3.1.pn
        have lo : (B ++ opz R).length = B.length + R.length := by rw [List.length_append, opz_l]
        obtain ⟨C4, M4, J4, c4, hh⟩ := sums (T := T) (n := n) (x := x) (Jc := Jc) h o ho fk 1 bs _ _ _ p3 q3 k3 v3 w3 C3 M3 J3 d e a3.1 f3 a3.2.2.2.2.2.2 (by omega) (by rw [lo]; omega) (by show 4 * (m + i + 1) ≤ _; omega) (Or.inr (Or.inl (z41.trans y41))) (by omega) (by omega) ⟨by have := hs5.1; show bs ≤ m + i + 1; omega, Or.inr ⟨cdo v2, tp0 a3.2.2.1, by omega, by omega, by omega, by have := hs5.1; show bs < m + i + 1; omega⟩⟩
        rw [c4, am_call_s, am_toN]
        rcases hh with ⟨l4, A2, B2, R2, p4, q4, k4, v4, w4, a4, lA4, lB4, lp4, hR4, hl4, hE4, hN4, _⟩ | ⟨l4, bx⟩
        · have a5 := a3.tr a4 (by rw [lo]; omega)
          have pn4 := a4.1.pn
          have lA5 : (A ++ A2).length = A.length + A2.length := List.length_append
          have c5 := a5.emC (Jc := Jc) (by rw [lA5]; omega) (cdo v2, 0) (d + 4 * h + 6)
          rw [b98_122, cm3, c5, am_call_s, am_toN]
          have hE5 := (hE.cmp hE4 (c := cdo v2) cm1 cm2).mono (t := 3 * h + 4) (by omega)
          have eV : B ++ opz R ++ (B2 ++ opz R2) ++ [(cdo v2, (0 : Int))] = (B ++ opz R ++ B2) ++ opz (R2 ++ [cdo v2]) := by simp [opz, List.map_append]
          rw [eV] at hE5
          obtain ⟨C6, M6, J6, c6, hh⟩ := fct_fin (Jc := Jc) (e := e) hla hlb a1 lp1 lm1 (a5.em (cdo v2, 0)) (by omega) (by omega) (fun _ => hN4) (by rw [List.length_append, lA5]; show p1 + (A.length + A2.length + 1) ≤ p4; omega) (by
            rw [List.length_append, lo, List.length_append]
            show p1 + (B.length + R.length + B2.length) + (R2.length + 1) ≤ p4
            omega) (by omega) ((hR4.mono (by omega)).app (fun c hc => by rw [List.mem_singleton.mp hc]; exact ⟨by omega, by omega, by omega⟩)) (by rw [List.length_append]; show R2.length + 1 ≤ 3; omega) hE5 (.int (nI o)) (.int (nI v2)) (d + 4 * h)
          exact ⟨C6, M6, J6, c6, by rw [l2, l3, l4]; exact hh⟩
        · obtain ⟨C6, d1, d2, d3⟩ := bx.2.2.2.f122 (Jc := Jc) (.int (nI o)) (nI (i % 2)) (nI v2) (d + 4 * h + 6)
          exact ⟨C6, M4, J4, d1, Or.inr ⟨by rw [l2, l3, l4], BdX.of rt.rc rt.rm a1.2.1 (BdX.of a3.2.2.1.rc a3.2.2.1.rm a3.2.1 (bx.cl d2 d3))⟩⟩
      · obtain ⟨C4, d1, d2, d3⟩ := bx.2.2.2.sum (Jc := Jc) (nI o) (d + 4 * h + 2)
        obtain ⟨C6, d4, d5, d6⟩ := d3.f122 (Jc := Jc) (.int (nI o)) (nI (i % 2)) (nI v2) (d + 4 * h + 6)
        refine ⟨C6, M3, J3, ?_, Or.inr ⟨by rw [l2, l3], BdX.of rt.rc rt.rm a1.2.1 ((bx.cl d2 d3).cl d5 d6)⟩⟩
        rw [d1, am_call_s, am_toN]
        exact d4
    · have y1 : ¬ (k2 = 5 ∧ v2 = 60) := fun y => z ⟨y.1, Or.inl y.2⟩
      have y2 : ¬ (k2 = 5 ∧ v2 = 62) := fun y => z ⟨y.1, Or.inr (Or.inl y.2)⟩
      have y3 : ¬ (k2 = 5 ∧ v2 = 61) := fun y => z ⟨y.1, Or.inr (Or.inr y.2)⟩
      have m4 := m_gcn (e := e) a2.1 a2.2.2.2.1 (by omega) a2.2.2.2.2.2.1 (fk15 f2.2.2.2.1 hfk) hN ⟨y1, y2, y3⟩
      have l3 := (Lp_go (e := e) a2.2.2.2.2.2.2 m4).2 (Or.inl rfl)
      have bx : BdX x C1 M1 J1 (Fc C2 1 p2) (Fmm M2 1 p2) J2 := ((a2.2.2.1.cl (Fc_f C2 1 p2)).sm (Fmm_f M2 1 p2).sm).bdx a2.2.1 (a2.1.fl (by omega) (by omega)) (by omega)
      obtain ⟨C6, d1, d2, d3⟩ := bx.2.2.2.f116 (Jc := Jc) (nI o) (nI (i % 2)) (C2 1 5) (.int (nI i)) (d + 4 * h + 2)
      refine ⟨C6, _, J2, ?_, Or.inr ⟨by rw [l2, l3], BdX.of rt.rc rt.rm a1.2.1 (bx.cl d2 d3)⟩⟩
      rw [b98_112, cmpN a2.1 y1 y2 y3, am_call_s, am_toL]
      exact d1
  · obtain ⟨C6, d1, d2, d3⟩ := bx.2.2.2.f112 (Jc := Jc) (nI o) (nI (i % 2)) (.int (nI i)) (d + 4 * h + 2)
    exact ⟨C6, M2, J2, d1, Or.inr ⟨l2, BdX.of rt.rc rt.rm a1.2.1 (bx.cl d2 d3)⟩⟩
theorem fct_all (IH : ∀ h', h = h' + 1 → TsP T n x Jc (o + 1) h' 96 10 1 (3 * h' + 6) 4 NT) (ho : o + h = 8) : TsP T n x Jc o h 98 8 3 (3 * h + 4) 12 NA := by
  intro fk bs la lb m p q k v w C M J d e g b h61 h41 hla hlb hm hfk hs
  have a0 : Acc T n x o la lb m C M J C M J [] [] (List.replicate 0 22) p q k v w 0 0 := ⟨g, (JF.rf _), Tk.rf b.2.2.2.2.2.2.1 b.2.2.2.2.2.2.2.1 b.2.2.2.2.2.2.2.2, b.2.1, b.2.2.1, b.2.2.2.2.1, h61⟩
  rcases not_loop (Jc := Jc) (by omega) b hfk hla hlb (d + 4 * h) e 1600 0 C M J p q k v w (by omega) a0 h41 (by omega) ⟨by omega, fun _ => by omega, Or.inl (by omega)⟩ with ⟨i, C1, M1, J1, p1, q1, k1, v1, w1, c1, l1, a1, h41', lp1, lm1, hn⟩ | ⟨C2, M2, J2, c1, l1, bx⟩
  · have cont : ∀ {cl : am_O}, Out e x C M J Jc cl (Lp e M1 J1) (Tr T n x o la lb m p 3 (3 * h + 4) NA C M J) → am_ev (d + 4 * h + 8) 98 4 [.ref 1, .int (nI o), .int (nI (0 % 2)), .int (nI 0)] [] (C, Jc, (tc_R x), tc_S, 289, 11479) = cl → Out e x C M J Jc (am_G (am_ev (d + 4 * h + 8)) 98 [.ref 1, .int (nI o)] (C, Jc, (tc_R x), tc_S, 289, 11479)) (Lp e M J) (Tr T n x o la lb m p 3 (3 * h + 4) NA C M J) := fun {cl} ⟨C3, M3, J3, c3, hh⟩ e0 => ⟨C3, M3, J3, by rw [b98_0]; exact e0.trans c3, by rw [l1]; exact hh⟩
    by_cases z1 : k1 = 5 ∧ v1 = 91
    · obtain ⟨rfl, rfl⟩ := z1
      exact cont (fct_br IH ho b hfk hla hlb a1 h41' lp1 lm1 d) c1
    · by_cases z2 : k1 = 3 ∧ v1 = 24
      · obtain ⟨rfl, rfl⟩ := z2
        exact cont (fct_al ho b hfk hla hlb a1 h41' lp1 lm1 d) c1
      · exact cont (fct_cm ho b hs hfk hla hlb a1 lp1 lm1 hn z1 z2 d) c1
  · exact ⟨C2, M2, J2, by rw [b98_0]; exact c1, Or.inr ⟨l1, bx⟩⟩
end LF3
