/-! LAWS: a fact, whole -/
def NA (_ _ : Nat) : Prop := True
def NT (k v : Nat) : Prop := ¬ (k = 3 ∧ v = 22) ∧ ¬ (k = 3 ∧ v = 21)
section LF2
variable {T : Nat → Nat} {n p q k v o h la lb m fk ph op bs r i : Nat} {w : List Nat} {x : Bool} {C M C' M' C1 M1 C2 M2 : tI} {J J' J1 J2 Jc : tJ} {A B A2 B2 : List (Nat × Int)} {R R2 Q : List Nat} {e : Nat} {p1 q1 k1 v1 : Nat} {w1 : List Nat}
theorem stp22 (b : Fr x o fk 0 bs la lb m C M) (hs : Stq M bs m 3) (a : Acc T n x o la lb m C M J C1 M1 J1 [] [] (List.replicate i 22) p1 q1 k1 v1 w1 0 0) : Stq M1 bs (m + i) 5 := by
  rcases Nat.eq_zero_or_pos i with rfl | hi
  · exact (hs.mono (by omega)).tk a.2.2.1
  · have h1 := hs.1
    refine ⟨by omega, Or.inr ⟨22, ?_, by omega, by omega, by decide, by omega⟩⟩
    have t := a.2.2.1.2.2.2.2.2.2.2 (i - 1) (by rw [List.length_reverse, List.length_replicate]; omega)
    rw [List.reverse_replicate] at t
    rw [show m + i - 1 = m + (i - 1) by omega, t]
    congr 1
    rw [List.getD_eq_getElem?_getD, List.getElem?_replicate, if_pos (by omega)]; rfl
theorem fct_fin (hla : la ≤ p) (hlb : lb ≤ p) (a1 : Acc T n x o la lb m C M J C1 M1 J1 [] [] (List.replicate i 22) p1 q1 k1 v1 w1 0 0) (lp1 : p + i ≤ p1) (lm1 : 4 * (m + i) ≤ p1 + 24 * o + 16) {p2 q2 k2 v2 ph' s : Nat} {w2 : List Nat} (a2 : Acc T n x o la lb (m + i) C1 M1 J1 C2 M2 J2 A B R p2 q2 k2 v2 w2 1 ph') (h1 : 1 ≤ ph') (h2 : ph' ≤ 2) (h3 : ph' ≤ 1 → N5 k2 v2) (h4 : p1 + A.length ≤ p2) (h5 : p1 + B.length + R.length ≤ p2) (h6 : p1 < p2) (hR : Pn 3 R) (hl : R.length ≤ 3) (hE : EqB s A (B ++ opz R)) (vv v3 : Value) (d : Nat) : Out e x C M J Jc (am_ev (d + 8) 98 135 [.ref 1, vv, .int (nI (i % 2)), v3] [] (C2, Jc, (tc_R x), tc_S, 289, 11479)) (Lp e M2 J2) (Tr T n x o la lb m p 3 s NA C M J) := by
  have pn := a2.1.pn
  have a3 : Acc T n x o la lb m C M J C2 M2 J2 A B (R ++ List.replicate i 22) p2 q2 k2 v2 w2 1 ph' := Acc.tr a1 (by rw [List.length_replicate]; exact a2) (by show lb + 0 ≤ 1600; omega)
  have eV : B ++ opz R ++ List.replicate i (22, (0 : Int)) = B ++ opz (R ++ List.replicate i 22) := by simp [opz, List.map_append]
  have hE2 := hE.nots i
  rw [eV] at hE2
  have lR : (R ++ List.replicate i 22).length = R.length + i := by rw [List.length_append, List.length_replicate]
  have hP : Pn 3 (R ++ List.replicate i 22) := hR.app (fun c hc => by rw [(List.mem_replicate.mp hc).2]; decide)
  by_cases y : i % 2 = 1
  · have ln : lnots i = [(22, 0)] := by unfold lnots; rw [if_pos y]
    rw [ln] at hE2
    have e24 : (-24 : Int32) = l_cc (22, 0) := by decide
    have c4 := a3.emC (Jc := Jc) (by omega) (22, 0) (d + 6)
    refine ⟨_, M2, J2, ?_, Or.inl ⟨rfl, A ++ [(22, 0)], B, R ++ List.replicate i 22, p2, q2, k2, v2, w2, ph', a3.em (22, 0), h1, h2, h3, ?_, ?_, by omega, hP, ?_, hE2, trivial⟩⟩
    · rw [y, b98_135, if_neg (by decide : ¬ nI 1 = 0), e24]
      refine (congrArg (fun z => am_call z _) c4).trans ?_
      rw [am_call_s, am_toN, b98_151]
    · rw [List.length_append]; show p + (A.length + 1) ≤ p2; omega
    · rw [lR]; omega
    · rw [lR]; omega
  · have ln : lnots i = [] := by unfold lnots; rw [if_neg y]
    rw [ln, List.append_nil] at hE2
    refine ⟨C2, M2, J2, ?_, Or.inl ⟨rfl, A, B, R ++ List.replicate i 22, p2, q2, k2, v2, w2, ph', a3, h1, h2, h3, by omega, ?_, by omega, hP, ?_, hE2, trivial⟩⟩
    · rw [show i % 2 = 0 by omega, b98_135, if_pos (by decide : nI 0 = 0), b98_151]
    · rw [lR]; omega
    · rw [lR]; omega
/-- a test in brackets -/
theorem fct_br (IH : ∀ h', h = h' + 1 → TsP T n x Jc (o + 1) h' 96 10 1 (3 * h' + 6) 4 NT) (ho : o + h = 8) (b : Fr x o fk 0 bs la lb m C M) (hfk : fk = 1 ∨ fk = 5) (hla : la ≤ p) (hlb : lb ≤ p) (a1 : Acc T n x o la lb m C M J C1 M1 J1 [] [] (List.replicate i 22) p1 q1 5 91 w1 0 0) (h41 : M1 41 o = 1) (lp1 : p + i ≤ p1) (lm1 : 4 * (m + i) ≤ p1 + 24 * o + 16) (d : Nat) : Out e x C M J Jc (am_call (am_G (am_ev (d + 4 * h + 7)) 79 [.ref 1, .int 5, .int 91] (C1, Jc, (tc_R x), tc_S, 289, 11479)) (fun r M => am_ev (d + 4 * h + 8) 98 48 [.ref 1, .int (nI o), .int (nI (i % 2)), .int (nI i)] (r.toList ++ []) M)) (Lp e M1 J1) (Tr T n x o la lb m p 3 (3 * h + 4) NA C M J) := by
  have f := a1.fr b
  rw [List.length_replicate] at f
  obtain ⟨f51, f57, f58, f39, f40, f43, fC, f50, f60⟩ := f
  have g1 := a1.1
  have hpq := g1.pq (by omega)
  have g1' := g1.uM (c := 41) (i := o) (by omega) 0
  have tk0 : Tk x o la lb (m + i) C1 M1 C1 (am_u2 M1 41 o 0) [] [] [] := (Tk.rf fC f50 f60).sm (Sm.rf.uo (Or.inr rfl) 0)
  obtain ⟨C2, M2, J2, s1, c2, m2, q1', sm2, q3', fin2⟩ := opn (x := x) (Jc := Jc) (o := o) (m := m + i) g1' (by rw [u2_c (by omega)]; exact f57) (by rw [u2_c (by omega)]; exact f58) (by rw [u2_c (by omega)]; exact f60) (by omega) 5 (d + 4 * h + 4) e
  have tk2 : Tk x o la lb (m + i) C1 M1 C2 M2 [] [] [] := (tk0.cl q1').sm sm2
  have mA := (m_op33t (e := e) (J := J1) f57 (by omega) (fk15 f39 hfk) h41).trans (m_opBr g1 (by omega) _ _ m2)
  have l1 := Lp_op (e := e) (J := J1) a1.2.2.2.2.2.2 (s := 0) (Or.inl rfl) mA
  have rt := a1.2.2.1
  rw [g1.csY (c := 91) rfl, am_call_s, am_toL, b98_48, if_neg (by decide : ¬ (1 : Int32) = 0)]
  have c58 : ∀ K, am_call (am_G (am_ev (d + 4 * h + 7)) 100 [.ref 1, .int 91, .int (nI o)] (C1, Jc, (tc_R x), tc_S, 289, 11479)) K = K (some (.int s1)) (C2, Jc, (tc_R x), tc_S, 289, 11479) := fun K => (congrArg (fun z => am_call z K) c2).trans rfl
  rw [c58, am_toL, b98_58]
  rcases fin2 with ⟨rfl, o8, ⟨p3, q3, k3, v3, w3, g3, z3⟩, j57, j58, j39, j40, j41, j43, j40o, j61, j60, j41o⟩ | ⟨bd, hs1⟩
  · obtain ⟨h', rfl⟩ : ∃ h', h = h' + 1 := ⟨h - 1, by omega⟩
    have k61 : M2 0 61 = 0 := by rw [j61, u2_c (by omega)]; exact a1.2.2.2.2.2.2
    have l1' := l1.1 g3.m8
    rw [u2_id _ 0 61 _ k61] at l1'
    have fr : Fr x (o + 1) 5 0 (m + i) la lb (m + i) C2 M2 := ⟨by rw [tk2.2.1 _ _ (by omega) (by omega) (by omega) (by omega) (by omega)]; exact f51, j57, j58, j39, j40, j43, tk2.2.2.1, tk2.2.2.2.2.1, j60⟩
    obtain ⟨C3, M3, J3, c3, hh⟩ := IH h' rfl 5 (m + i) la lb (m + i) p3 q3 k3 v3 w3 C2 M2 J2 (d + 1) e g3 fr k61 j41 (by omega) (by omega) (by omega) (Or.inr rfl) ⟨Nat.le_refl _, Or.inl rfl⟩
    rw [show d + 1 + 4 * h' + 10 = d + 4 * (h' + 1) + 7 by omega] at c3
    rw [if_neg (by decide : ¬ (1 : Int32) = 0), nI_1, c3, am_call_s, am_toN]
    rcases hh with ⟨l2, tr⟩ | ⟨l2, bx⟩
    · rw [b98_68]
      obtain ⟨C4, M4, J4, c4, hh⟩ := cls5 (Jc := Jc) (e := e) (p := p1) (by omega) tk2 q3' fr z3 (by omega) (by omega) tr (d + 4 * (h' + 1) + 4)
      have c75 : ∀ K, am_call (am_G (am_ev (d + 4 * (h' + 1) + 7)) 80 [.ref 1, .int 5, .int 93] (C3, Jc, (tc_R x), tc_S, 289, 11479)) K = K none (C4, Jc, (tc_R x), tc_S, 289, 11479) := fun K => (congrArg (fun z => am_call z K) c4).trans rfl
      rw [c75, am_toN, b98_75]
      rcases hh with ⟨l3, A, B, p4, q4, k4, v4, w4, a4, lA, lB, hE⟩ | ⟨l3, bx⟩
      · obtain ⟨C5, M5, J5, c5, hh⟩ := fct_fin (Jc := Jc) (e := e) hla hlb a1 lp1 lm1 a4 (by omega) (by omega) (fun z => by omega) (by omega) (by show p1 + B.length + 0 ≤ p4; omega) (by omega) (fun c hc => absurd hc (List.not_mem_nil)) (Nat.zero_le _) (by rw [show B ++ opz [] = B from List.append_nil _]; exact hE.mono (show 3 * h' + 6 ≤ 3 * (h' + 1) + 4 by omega)) (.int (nI o)) (.int (nI i)) (d + 4 * (h' + 1))
        exact ⟨C5, M5, J5, c5, by rw [l1', l2, l3]; exact hh⟩
      · obtain ⟨C5, d1, d2, d3⟩ := bx.2.2.2.f135 (Jc := Jc) (.int (nI o)) (.int (nI i)) (nI (i % 2)) (d + 4 * (h' + 1) + 6)
        exact ⟨C5, M4, J4, d1, Or.inr ⟨by rw [l1', l2, l3], BdX.of rt.rc rt.rm a1.2.1 (bx.cl d2 d3)⟩⟩
    · obtain ⟨C5, d1, d2, d3⟩ := bx.2.2.2.f68 (Jc := Jc) (.int (nI o)) (.int (nI i)) (nI (i % 2)) (d + 4 * (h' + 1) + 5)
      exact ⟨C5, M3, J3, d1, Or.inr ⟨by rw [l1', l2], BdX.of rt.rc rt.rm a1.2.1 (BdX.of tk2.rc tk2.rm q3' (bx.cl d2 d3))⟩⟩
  · have bx : BdX x C1 M1 J1 C2 (am_u2 M2 0 61 0) J2 := (tk2.sm (Sm.rf.u0 (by omega) 0)).bdx q3' (bd.wr (fun _ => rfl) (fun b hb => u2_p (by omega))) (by show la + 0 ≤ 1600; omega)
    have bx' := BdX.of rt.rc rt.rm a1.2.1 bx
    rcases hs1 with rfl | ⟨rfl, o8⟩
    · rw [if_pos rfl]
      obtain ⟨C5, d1, d2, d3⟩ := bx'.2.2.2.f135 (Jc := Jc) (.int (nI o)) (.int (nI i)) (nI (i % 2)) (d + 4 * h + 6)
      exact ⟨C5, _, J2, d1, Or.inr ⟨l1.2 bd.m8, bx'.cl d2 d3⟩⟩
    · obtain ⟨h', rfl⟩ : ∃ h', h = h' + 1 := ⟨h - 1, by omega⟩
      obtain ⟨C3, d1, d2, d3⟩ := bx'.2.2.2.tst (Jc := Jc) (nI o + 1) (d + 4 * h' + 3)
      obtain ⟨C5, d4, d5, d6⟩ := d3.f68 (Jc := Jc) (.int (nI o)) (.int (nI i)) (nI (i % 2)) (d + 4 * (h' + 1) + 5)
      rw [show d + 4 * h' + 3 + 8 = d + 4 * (h' + 1) + 7 by omega] at d1
      refine ⟨C5, _, J2, ?_, Or.inr ⟨l1.2 bd.m8, (bx'.cl d2 d3).cl d5 d6⟩⟩
      rw [if_neg (by decide : ¬ (1 : Int32) = 0), d1, am_call_s, am_toN]
      exact d4
/-- all -/
theorem fct_al (ho : o + h = 8) (b : Fr x o fk 0 bs la lb m C M) (hfk : fk = 1 ∨ fk = 5) (hla : la ≤ p) (hlb : lb ≤ p) (a1 : Acc T n x o la lb m C M J C1 M1 J1 [] [] (List.replicate i 22) p1 q1 3 24 w1 0 0) (h41 : M1 41 o = 1) (lp1 : p + i ≤ p1) (lm1 : 4 * (m + i) ≤ p1 + 24 * o + 16) (d : Nat) : Out e x C M J Jc (am_call (am_G (am_ev (d + 4 * h + 7)) 79 [.ref 1, .int 5, .int 91] (C1, Jc, (tc_R x), tc_S, 289, 11479)) (fun r M => am_ev (d + 4 * h + 8) 98 48 [.ref 1, .int (nI o), .int (nI (i % 2)), .int (nI i)] (r.toList ++ []) M)) (Lp e M1 J1) (Tr T n x o la lb m p 3 (3 * h + 4) NA C M J) := by
  have f := a1.fr b
  rw [List.length_replicate] at f
  obtain ⟨f51, f57, f58, f39, f40, f43, fC, f50, f60⟩ := f
  have hy := tc_P4 (!x)
  have g1 := a1.1
  have hpq := g1.pq (by omega)
  have g1' := g1.uM (c := 41) (i := o) (by omega) 0
  have rt := a1.2.2.1
  have tk0 : Tk x o la lb (m + i) C1 M1 C1 (am_u2 M1 41 o 0) [] [] [] := (Tk.rf fC f50 f60).sm (Sm.rf.uo (Or.inr rfl) 0)
  obtain ⟨M2, j1, t2, j1f⟩ := m_ad (J := J1) (by rw [u2_c (by omega)]; exact f51) tk0 (by show lb + 0 < 1600; omega) (9, 0) (u := 9) (w := 0) rfl rfl (e + 3)
  have g2 : Gd T n C1 (am_u2 M2 40 o 2) J1 p1 q1 3 24 w1 := (g1'.wr (fun _ _ _ _ => rfl) (fun b hb => j1f _ _ (by omega) (by omega) (by omega)) (fun b => j1f _ _ (by omega) (by omega) (by omega)) rfl : Gd T n C1 M2 J1 p1 q1 3 24 w1).uM (by omega) 2
  obtain ⟨C2, M4, J4, e1, e2, f1, f2, f3, f4⟩ := g2.gox (by omega) (by omega) (x := x) (Jc := Jc) (d + 4 * h + 5) (e + 2)
  have mA := (m_op33t (e := e) (J := J1) f57 (by omega) (fk15 f39 hfk) h41).trans (m_opAll g1 (by omega) _ _ j1 e2)
  have l1 := Lp_op (e := e) (J := J1) a1.2.2.2.2.2.2 (s := 1) (Or.inr rfl) mA
  have t4 : Tk x o la lb (m + i) C1 M1 C2 (am_u2 M4 0 61 1) [] [(9, 0)] [] := (t2.cl f1).sm (((Sm.rf.uo (Or.inl rfl) _).tr f2.sm).u0 (by omega) 1)
  have e25 : (-25 : Int32) = l_cc (9, 0) := by decide
  rw [g1.csN (c := 91) 91 rfl (by decide) (by omega), am_call_s, am_toL, b98_48, if_pos rfl, g1.cwY (c := 24) rfl, am_call_s, am_toL, b98_85, if_neg (by decide : ¬ (1 : Int32) = 0), e1, am_call_s, am_toN, b98_92, e25]
  have fr : ∀ j, j ≠ 50 → 9 < j → M4 0 j = M1 0 j := fun j h1 h2 => by rw [f2 _ _ (fun _ => by omega), u2_c (by omega), j1f _ _ (by omega) (by omega) (by omega), u2_c (by omega)]
  rcases f4 with ⟨p2, q2, k2, v2, w2, g4, z1, z2, _⟩ | ⟨bd, _⟩
  · have a2 : Acc T n x o la lb (m + i) C1 M1 J1 C2 (am_u2 M4 0 61 1) J4 [] [(9, 0)] [] p2 q2 k2 v2 w2 1 2 := by
      refine ⟨g4.u0 (by omega) 1, f3, t4, ?_, ?_, ?_, u2_s⟩
      · rw [u2_p (by omega), fr _ (by omega) (by omega)]; exact f57
      · rw [u2_p (by omega), fr _ (by omega) (by omega)]; exact f58
      · rw [u2_c (by omega), f2 _ _ (fun z => by omega), u2_s]; rfl
    have c4 := a2.emC (Jc := Jc) (by show la + 0 < 1600; omega) (9, 0) (d + 4 * h + 6)
    have c104 : ∀ K, am_call (am_G (am_ev (d + 4 * h + 7)) 41 [.ref (tc_P (!x) + 33), .int (l_cc (9, 0))] (C2, Jc, (tc_R x), tc_S, 289, 11479)) K = K none _ := fun K => (congrArg (fun z => am_call z K) c4).trans rfl
    rw [c104, am_toN, b98_104]
    obtain ⟨C5, M5, J5, c5, hh⟩ := fct_fin (Jc := Jc) (e := e) hla hlb a1 lp1 lm1 (a2.em (9, 0)) (by omega) (by omega) (fun z => by omega) (by show p1 + 1 ≤ p2; omega) (by show p1 + 1 + 0 ≤ p2; omega) (by omega) (fun c hc => absurd hc (List.not_mem_nil)) (Nat.zero_le _) (EqB.all.mono (show 1 ≤ 3 * h + 4 by omega)) (.int (nI o)) (.int (nI i)) (d + 4 * h)
    exact ⟨C5, M5, J5, c5, by rw [l1.1 g4.m8]; exact hh⟩
  · have bx : BdX x C1 M1 J1 C2 (am_u2 M4 0 61 1) J4 := t4.bdx f3 (bd.wr (fun _ => rfl) (fun b hb => u2_p (by omega))) (by show la + 0 ≤ 1600; omega)
    have bx' := BdX.of rt.rc rt.rm a1.2.1 bx
    obtain ⟨C4, d1, d2, d3⟩ := bx'.2.2.2.em (Jc := Jc) (l_cc (9, 0)) (d + 4 * h + 6)
    obtain ⟨C5, d4, d5, d6⟩ := d3.f135 (Jc := Jc) (.int (nI o)) (.int (nI i)) (nI (i % 2)) (d + 4 * h + 6)
    refine ⟨C5, _, J4, ?_, Or.inr ⟨l1.2 bd.m8, (bx'.cl d2 d3).cl d5 d6⟩⟩
    rw [d1, am_call_s, am_toN, b98_104]
    exact d4
end LF2
