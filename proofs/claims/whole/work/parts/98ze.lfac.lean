/-! LAWS: factors -/
section LFA
variable {T : Nat → Nat} {n p q k v o h la lb m fk ph op bs r : Nat} {w : List Nat} {x : Bool} {C M C' M' C2 M2 : tI} {J J' J2 Jc : tJ} {A B A2 B2 : List (Nat × Int)} {R R2 Q : List Nat} {e : Nat}
/-- behind a sum in brackets: the closing one -/
theorem cls2 (ho : o + 1 ≤ 8) {C1 M1 : tI} {J1 : tJ} (tk1 : Tk x o la lb m C M C1 M1 [] [] []) (rj1 : JF J J1) (h40 : M1 40 o = nI ph) (h41 : M1 41 o = 0) (b : Fr x (o + 1) 2 0 m la lb m C1 M1) {p1 : Nat} (hp1 : p < p1) (hla : la ≤ p) (hlb : lb ≤ p) (hm : m ≤ 490) {s : Nat} (hh : Ar T n x (o + 1) la lb m p1 0 5 s N5 C1 M1 J1 C2 M2 J2) (d : Nat) : Out e x C M J Jc (am_G (am_ev (d + 3)) 80 [.ref 1, .int 5, .int (nI 41)] (C2, Jc, (tc_R x), tc_S, 289, 11479)) (Lp e M2 J2) (Ar T n x o la lb m p ph 7 s N7 C M J) := by
  obtain ⟨A, B, R, p2, q2, k2, v2, w2, a, lA, lB, lp, hR, hl, hE, hN, _⟩ := hh
  have f := a.fr b
  have ga := a.1
  have m3 := m_g409s (e := e) ga a.2.2.2.1 (by omega) a.2.2.2.2.2.1 (Nat.zero_le 1) (by rw [f.2.2.2.1]; decide) (by rw [f.2.2.2.1]; decide) hN
  rw [f.2.2.2.1] at m3
  have rj2 := rj1.tr a.2.1
  have pn := ga.pn
  by_cases z : k2 = 5 ∧ v2 = 41
  · obtain ⟨rfl, rfl⟩ := z
    have hpq := ga.pq (by omega)
    obtain ⟨M3, j1, a3, j1f⟩ := a.jn b (by omega) (r := 1) (by omega) ⟨Nat.le_refl _, Or.inl rfl⟩ (hR.mono (by omega)) (by omega) (by omega) (e + 2)
    have e57 : M3 0 57 - 1 = nI (o + 1) := by rw [a3.2.2.2.1]; exact nI_sub (b := 1) (by omega) (by omega)
    have e58 : M3 0 58 - 1 = nI o := by rw [a3.2.2.2.2.1]; exact nI_sub (b := 1) (by omega) (by omega)
    have g3 : Gd T n C2 (am_u2 (am_u2 M3 0 57 (M3 0 57 - 1)) 0 58 (M3 0 58 - 1)) J2 p2 q2 5 41 w2 := (a3.1.u0 (by omega) _).u0 (by omega) _
    obtain ⟨C4, M4, J4, e1, e2, f1, f2, f3, f4⟩ := g3.gox (by omega) (by omega) (x := x) (Jc := Jc) d (e + 2)
    have m4 := m3.trans (m_cl2 ga j1 e2)
    have l3 := Lp_go (e := e) a.2.2.2.2.2.2 m4
    have t3 : Tk x o la lb m C M C2 M3 A (B ++ opz R) [] := Tk.tr (o2 := o + 1) (by omega) tk1 a3.2.2.1 (by show lb + 0 ≤ 1600; omega)
    have t4 : Tk x o la lb m C M C4 M4 A (B ++ opz R) [] := (t3.cl f1).sm (((Sm.rf.u0 (j := 57) (by omega) _).u0 (j := 58) (by omega) _).tr f2.sm)
    have fr : ∀ j, M4 40 j = M3 40 j := fun j => by rw [f2 _ _ (fun z => by omega), u2_c (by omega), u2_c (by omega)]
    refine ⟨C4, M4, J4, tkY ga d e1, ?_⟩
    rcases f4 with ⟨p4, q4, k4, v4, w4, g4, z1, z2, _⟩ | ⟨bd, _⟩
    · refine Or.inl ⟨l3.1 rfl g4.m8, A, B ++ opz R, [], p4, q4, k4, v4, w4, ⟨g4, rj2.tr f3, t4, ?_, ?_, ?_, ?_⟩, by omega, by rw [List.length_append, opz_l]; show p + (B.length + R.length) + 0 ≤ p4; omega, by omega, fun c hc => absurd hc (List.not_mem_nil), Nat.zero_le _, by rw [show B ++ opz R ++ opz [] = B ++ opz R from List.append_nil _]; exact hE, trivial, ?_⟩
      · rw [f2 _ _ (fun _ => by omega), u2_p (by omega), u2_s]; exact e57
      · rw [f2 _ _ (fun _ => by omega), u2_s]; exact e58
      · rw [fr, j1f _ _ (by omega) (by omega) (by omega), a.2.2.1.2.1 _ _ (by omega) (by omega) (by omega) (by omega) (by omega)]; exact h40
      · rw [f2 _ _ (fun _ => by omega), u2_p (by omega), u2_p (by omega), j1f _ _ (by omega) (by omega) (by omega)]; exact a.2.2.2.2.2.2
      · rw [f2 _ _ (fun z => by omega), u2_c (by omega), u2_c (by omega), j1f _ _ (by omega) (by omega) (by omega), a.2.2.1.2.1 _ _ (by omega) (by omega) (by omega) (by omega) (by omega)]; exact h41
    · exact Or.inr ⟨l3.2 (Or.inr bd.m8), t4.bdx (rj2.tr f3) bd (by omega)⟩
  · have m4 := m3.trans (m_cln ga (fk := 2) (Or.inl rfl) (fun _ => z) (fun y => absurd y (by decide)) (fun y => absurd y (by decide)))
    have l3 := Lp_go (e := e) a.2.2.2.2.2.2 m4
    have t3 : Tk x o la lb m C M C2 M2 A B ([] ++ R.reverse) := Tk.tr (o2 := o + 1) (by omega) tk1 a.2.2.1 (by show lb + 0 ≤ 1600; omega)
    refine ⟨Fc C2 1 p2, Fmm M2 1 p2, J2, tkN ga (by decide) z d, Or.inr ⟨l3.2 (Or.inl rfl), ((t3.cl (Fc_f C2 1 p2)).sm (Fmm_f M2 1 p2).sm).bdx rj2 (ga.fl (by omega) (by omega)) (by omega)⟩⟩
theorem fac_pa (IH : ∀ h', h = h' + 1 → ArP T n x Jc (o + 1) h' 101 7 5 (3 * h' + 3) 20 N5) (ho : o + h = 8) (g : Gd T n C M J p q 5 40 w) (b : Fr x o fk ph bs la lb m C M) (h61 : M 0 61 = 0) (hla : la ≤ p) (hlb : lb ≤ p) (hm : 4 * m ≤ p + 24 * o + 28) (d : Nat) {s : Int32} (m0 : am_G (am_ev (e + 5)) 180 [.ref 0] (M, J, tm_R, tm_S, 77, 21637) = am_call (am_G (am_ev (e + 4)) 165 [.ref 0, .int 40] (am_u2 M 41 o 0, J, tm_R, tm_S, 77, 21637)) (fun r M => am_ev (e + 5) 180 127 [.ref 0, .int (nI o), .int s, am_un] (r.toList ++ []) M)) : Out e x C M J Jc (am_G (am_ev (d + 4 * h + 5)) 103 [.ref 1, .int (nI o)] (C, Jc, (tc_R x), tc_S, 289, 11479)) (Lp e M J) (Ar T n x o la lb m p ph 7 (3 * h + 1) N7 C M J) := by
  obtain ⟨b51, b57, b58, b39, b40, b43, bC, b50, b60⟩ := b
  have hpq := g.pq (by omega)
  have g1 := g.uM (c := 41) (i := o) (by omega) 0
  have tk0 : Tk x o la lb m C M C (am_u2 M 41 o 0) [] [] [] := (Tk.rf bC b50 b60).sm (Sm.rf.uo (Or.inr rfl) 0)
  obtain ⟨C1, M1, J1, s1, c1, m1, f1, sm1, f3, fin⟩ := opn (x := x) (Jc := Jc) (o := o) (m := m) g1 (by rw [u2_c (by omega)]; exact b57) (by rw [u2_c (by omega)]; exact b58) (by rw [u2_c (by omega)]; exact b60) (by omega) 2 (d + 4 * h + 1) e
  have tk1 : Tk x o la lb m C M C1 M1 [] [] [] := (tk0.cl f1).sm sm1
  have mA := m0.trans (m_opPa g1 _ _ _ m1)
  have l1 := Lp_op (e := e) (J := J) h61 (s := 0) (Or.inl rfl) mA
  have c0 : am_G (am_ev (d + 4 * h + 5)) 103 [.ref 1, .int (nI o)] (C, Jc, (tc_R x), tc_S, 289, 11479) = am_ev (d + 4 * h + 5) 103 123 [.ref 1, .int (nI o), .int (C 1 5)] [.int s1] (C1, Jc, (tc_R x), tc_S, 289, 11479) := by
    refine (c_f71 g (by omega) (by omega) (nI o) (d + 4 * h + 4)).trans ?_
    refine (congrArg (fun z => am_call z _) c1).trans ?_
    rw [am_call_s, am_toL]
  rw [c0]
  rcases fin with ⟨rfl, o8, ⟨p1, q1, k1, v1, w1, g1', z1⟩, i57, i58, i39, i40, i41, i43, i40o, i61, i60, i41o⟩ | ⟨bd, hs1⟩
  · obtain ⟨h', rfl⟩ : ∃ h', h = h' + 1 := ⟨h - 1, by omega⟩
    have j61 : M1 0 61 = 0 := by rw [i61, u2_c (by omega)]; exact h61
    have l1' : Lp e M J = Lp e M1 J1 := by
      have := l1.1 g1'.m8
      rw [u2_id _ _ _ _ j61] at this
      exact this
    have fr : Fr x (o + 1) 2 0 m la lb m C1 M1 := ⟨by rw [tk1.2.1 _ _ (by omega) (by omega) (by omega) (by omega) (by omega)]; exact b51, i57, i58, i39, i40, i43, tk1.2.2.1, tk1.2.2.2.2.1, i60⟩
    obtain ⟨C2, M2, J2, c2, hh⟩ := IH h' rfl 2 0 m la lb m p1 q1 k1 v1 w1 C1 M1 J1 (d + 1) e g1' fr j61 (by omega) (by omega) (by omega) (Or.inl (by omega)) (by omega) (by omega) ⟨Nat.le_refl _, Or.inl rfl⟩
    have c2' : am_G (am_ev (d + 4 * (h' + 1) + 4)) 101 [.ref 1, .int (nI (o + 1))] (C1, Jc, (tc_R x), tc_S, 289, 11479) = some (none, (C2, Jc, (tc_R x), tc_S, 289, 11479)) := by
      rw [show d + 4 * (h' + 1) + 4 = d + 1 + 4 * h' + 7 by omega]; exact c2
    rw [b103_123, if_neg (by decide : ¬ (1 : Int32) = 0), nI_1, c2', am_call_s, am_toN, b103_133]
    rcases hh with ⟨l2, ar⟩ | ⟨l2, bx⟩
    · obtain ⟨C3, M3, J3, c3, hh⟩ := cls2 (Jc := Jc) (e := e) (by omega) tk1 f3 (by rw [i40o, u2_c (by omega)]; exact b40) (by rw [i41o]; exact u2_s) fr z1 hla hlb (by omega) ar (d + 4 * h' + 5)
      refine ⟨C3, M3, J3, ?_, ?_⟩
      · refine (congrArg (fun z => am_call z _) c3).trans ?_
        rw [am_call_s, am_toN, b103_140]
      · rw [l1', l2]
        rcases hh with ⟨l3, A, B, R, p2, q2, k2, v2, w2, a, lA, lB, lp, hR, hl, hE, hN⟩ | hh
        · exact Or.inl ⟨l3, A, B, R, p2, q2, k2, v2, w2, a, lA, lB, lp, hR, hl, hE.mono (by omega), hN⟩
        · exact Or.inr hh
    · obtain ⟨C3, d1, d2, d3⟩ := bx.2.2.2.tk (Jc := Jc) (c := 5) (by decide) 41 (d + 4 * h' + 6)
      refine ⟨C3, M2, J2, ?_, Or.inr ⟨l1'.trans l2, BdX.of tk1.rc tk1.rm f3 (bx.cl d2 d3)⟩⟩
      refine (congrArg (fun z => am_call z _) d1).trans ?_
      rw [am_call_s, am_toN, b103_140]
  · have t61 : Tk x o la lb m C M C1 (am_u2 M1 0 61 0) [] [] [] := tk1.sm (Sm.rf.u0 (by omega) 0)
    have bx : BdX x C M J C1 (am_u2 M1 0 61 0) J1 := t61.bdx f3 (bd.wr (fun _ => rfl) (fun b hb => u2_p (by omega))) (by show la + 0 ≤ 1600; omega)
    rcases hs1 with rfl | ⟨rfl, o8⟩
    · exact ⟨C1, _, J1, by rw [b103_123, if_pos rfl, b103_140], Or.inr ⟨l1.2 bd.m8, bx⟩⟩
    · obtain ⟨h', rfl⟩ : ∃ h', h = h' + 1 := ⟨h - 1, by omega⟩
      obtain ⟨C2, d1, d2, d3⟩ := bx.2.2.2.sum (Jc := Jc) (nI o + 1) (d + 4 * h' + 3)
      obtain ⟨C3, d4, d5, d6⟩ := d3.fa133 (Jc := Jc) (.int (nI o)) (.int (C 1 5)) (d + 4 * h' + 6)
      refine ⟨C3, _, J1, ?_, Or.inr ⟨l1.2 bd.m8, (bx.cl d2 d3).cl d5 d6⟩⟩
      rw [b103_123, if_neg (by decide : ¬ (1 : Int32) = 0)]
      refine (congrArg (fun z => am_call z _) d1).trans ?_
      rw [am_call_s, am_toN]
      exact d4
end LFA
