/-! LAWS: the lesser and the greater of two -/
section LPR
variable {T : Nat → Nat} {n p q k v o h la lb m fk ph op bs r : Nat} {w : List Nat} {x : Bool} {C M C' M' C2 M2 : tI} {J J' J2 Jc : tJ} {A B A2 B2 : List (Nat × Int)} {R R2 Q : List Nat} {e : Nat}
/-- behind the first sum: the comma -/
theorem cls3 (ho : o + 1 ≤ 8) {C1 M1 : tI} {J1 : tJ} (tk1 : Tk x o la lb m C M C1 M1 [] [] []) (rj1 : JF J J1) (b : Fr x (o + 1) 3 0 m la lb m C1 M1) {p1 : Nat} (hp1 : p < p1) (hla : la ≤ p) (hlb : lb ≤ p) (hm : m ≤ 490) {s : Nat} (hh : Ar T n x (o + 1) la lb m p1 0 5 s N5 C1 M1 J1 C2 M2 J2) (d : Nat) : Out e x C M J Jc (am_G (am_ev (d + 3)) 80 [.ref 1, .int 5, .int (nI 44)] (C2, Jc, (tc_R x), tc_S, 289, 11479)) (Lp e M2 J2) (fun C4 M4 J4 => ∃ A B p4 q4 k4 v4 w4, Gd T n C4 M4 J4 p4 q4 k4 v4 w4 ∧ JF J J4 ∧ Tk x o la lb m C M C4 M4 A B [] ∧ Fr x (o + 1) 4 0 m (la + A.length) (lb + B.length) m C4 M4 ∧ M4 0 61 = 0 ∧ p1 + A.length < p4 ∧ p1 + B.length < p4 ∧ EqV s A B ∧ M4 40 o = M1 40 o ∧ M4 41 o = M1 41 o ∧ M4 42 (o + 1) = M1 42 (o + 1)) := by
  obtain ⟨A, B, R, p2, q2, k2, v2, w2, a, lA, lB, lp, hR, hl, hE, hN, _⟩ := hh
  have f := a.fr b
  have ga := a.1
  have m3 := m_g409s (e := e) ga a.2.2.2.1 (by omega) a.2.2.2.2.2.1 (Nat.zero_le 1) (by rw [f.2.2.2.1]; decide) (by rw [f.2.2.2.1]; decide) hN
  rw [f.2.2.2.1] at m3
  have rj2 := rj1.tr a.2.1
  have pn := ga.pn
  by_cases z : k2 = 5 ∧ v2 = 44
  · obtain ⟨rfl, rfl⟩ := z
    have hpq := ga.pq (by omega)
    obtain ⟨M3, j1, a3, j1f⟩ := a.jn b (by omega) (r := 1) (by omega) ⟨Nat.le_refl _, Or.inl rfl⟩ (hR.mono (by omega)) (by omega) (by omega) (e + 2)
    have f3' := a3.fr b
    have g3 : Gd T n C2 (am_u2 M3 39 (o + 1) 4) J2 p2 q2 5 44 w2 := a3.1.uM (by omega) _
    obtain ⟨C4, M4, J4, e1, e2, f1, f2, f3, f4⟩ := g3.gox (by omega) (by omega) (x := x) (Jc := Jc) d (e + 2)
    have m4 := m3.trans (m_cl3 ga (by omega) j1 e2)
    have l3 := Lp_go (e := e) a.2.2.2.2.2.2 m4
    have e8 : am_u2 M4 0 61 0 0 8 = M4 0 8 := u2_p (by omega)
    have t3 : Tk x o la lb m C M C2 M3 A (B ++ opz R) [] := Tk.tr (o2 := o + 1) (by omega) tk1 a3.2.2.1 (by show lb + 0 ≤ 1600; omega)
    have t4 : Tk x o la lb m C M C4 (am_u2 M4 0 61 0) A (B ++ opz R) [] := (t3.cl f1).sm (((Sm.rf.ui (by omega) (by omega) (by omega) _).tr f2.sm).u0 (by omega) 0)
    have lo : (B ++ opz R).length = B.length + R.length := by rw [List.length_append, opz_l]
    have fr0 : ∀ j, j ≠ 61 → 9 < j → am_u2 M4 0 61 0 0 j = M3 0 j := fun j h1 h2 => by rw [u2_p h1, f2 _ _ (fun _ => by omega), u2_c (by omega)]
    have fra : ∀ a j, a ≠ 0 → a ≠ 39 → am_u2 M4 0 61 0 a j = M3 a j := fun a j h1 h2 => by rw [u2_c h1, f2 _ _ (fun z => by omega), u2_c h2]
    have frn : ∀ a j, a ≠ 0 → a ≠ 37 → a ≠ 38 → a ≠ 39 → a ≠ 44 → ¬ (39 ≤ a ∧ a ≤ 43 ∧ o + 1 < j) → ¬ ((a = 40 ∨ a = 41) ∧ j = o + 1) → am_u2 M4 0 61 0 a j = M1 a j := fun a' j h1 h2 h3 h4 h5 h6 h7 => by
      rw [fra a' j h1 h4, j1f _ _ (by omega) h2 h3, a.2.2.1.2.1 _ _ (by omega) (by omega) h6 h7 (by omega)]
    refine ⟨C4, am_u2 M4 0 61 0, J4, tkY ga d e1, ?_⟩
    rcases f4 with ⟨p4, q4, k4, v4, w4, g4, z1, z2, _⟩ | ⟨bd, _⟩
    · refine Or.inl ⟨l3.1 rfl (e8.trans g4.m8), A, B ++ opz R, p4, q4, k4, v4, w4, g4.u0 (by omega) 0, rj2.tr f3, t4, ⟨?_, ?_, ?_, ?_, ?_, ?_, t4.2.2.1, t4.2.2.2.2.1, t4.2.2.2.2.2.2.1⟩, u2_s, by omega, by rw [lo]; omega, hE, frn 40 o (by omega) (by omega) (by omega) (by omega) (by omega) (by omega) (by omega), frn 41 o (by omega) (by omega) (by omega) (by omega) (by omega) (by omega) (by omega), frn 42 (o + 1) (by omega) (by omega) (by omega) (by omega) (by omega) (by omega) (by omega)⟩
      · rw [fr0 51 (by omega) (by omega)]; exact f3'.1
      · rw [fr0 57 (by omega) (by omega)]; exact f3'.2.1
      · rw [fr0 58 (by omega) (by omega)]; exact f3'.2.2.1
      · rw [u2_c (by omega), f2 _ _ (fun z => by omega), u2_s]; rfl
      · rw [fra 40 _ (by omega) (by omega)]; exact f3'.2.2.2.2.1
      · rw [fra 43 _ (by omega) (by omega)]; exact f3'.2.2.2.2.2.1
    · exact Or.inr ⟨l3.2 (Or.inr (by rw [e8]; exact bd.m8)), t4.bdx (rj2.tr f3) (bd.wr (fun _ => rfl) (fun b hb => u2_p (by omega))) (by omega)⟩
  · have m4 := m3.trans (m_cln ga (fk := 3) (Or.inr (Or.inr (Or.inr rfl))) (fun y => absurd y (by decide)) (fun y => absurd y (by decide)) (fun _ => z))
    have l3 := Lp_go (e := e) a.2.2.2.2.2.2 m4
    have t3 : Tk x o la lb m C M C2 M2 A B ([] ++ R.reverse) := Tk.tr (o2 := o + 1) (by omega) tk1 a.2.2.1 (by show lb + 0 ≤ 1600; omega)
    refine ⟨Fc C2 1 p2, Fmm M2 1 p2, J2, tkN ga (by decide) z d, Or.inr ⟨l3.2 (Or.inl rfl), ((t3.cl (Fc_f C2 1 p2)).sm (Fmm_f M2 1 p2).sm).bdx rj2 (ga.fl (by omega) (by omega)) (by omega)⟩⟩
/-- behind the second sum: the closing bracket; then the code of the two -/
theorem cls4 (ho : o + 1 ≤ 8) {C1 M1 : tI} {J1 : tJ} {A1 B1 : List (Nat × Int)} (tk1 : Tk x o la lb m C M C1 M1 A1 B1 []) (rj1 : JF J J1) (h40 : M1 40 o = nI ph) (h41 : M1 41 o = 0) {c : Nat} (hc : c = 15 ∨ c = 16) (h42 : M1 42 (o + 1) = nI c) (b : Fr x (o + 1) 4 0 m (la + A1.length) (lb + B1.length) m C1 M1) {p1 : Nat} (l1 : p + A1.length + 2 ≤ p1) (l2 : p + B1.length + 2 ≤ p1) (hla : la ≤ p) (hlb : lb ≤ p) (hm : m ≤ 490) {s s0 : Nat} (hE1 : EqV s0 A1 B1) (hh : Ar T n x (o + 1) (la + A1.length) (lb + B1.length) m p1 0 5 s N5 C1 M1 J1 C2 M2 J2) (d : Nat) : ∃ C3 M4 J4, am_G (am_ev (d + 3)) 80 [.ref 1, .int 5, .int (nI 41)] (C2, Jc, (tc_R x), tc_S, 289, 11479) = some (none, (C3, Jc, (tc_R x), tc_S, 289, 11479)) ∧ ((Lp e M2 J2 = Lp e M4 J4 ∧ ∃ C4, am_G (am_ev (d + 3)) 41 [.ref (tc_P (!x) + 33), .int (l_cc (c, 0))] (C3, Jc, (tc_R x), tc_S, 289, 11479) = some (none, (C4, Jc, (tc_R x), tc_S, 289, 11479)) ∧ Ar T n x o la lb m p ph 7 (max s0 (s + 1)) N7 C M J C4 M4 J4) ∨ (Lp e M2 J2 = some (none, (M4, J4, tm_R, tm_S, 77, 21637)) ∧ BdX x C M J C3 M4 J4)) := by
  obtain ⟨A, B, R, p2, q2, k2, v2, w2, a, lA, lB, lp, hR, hl, hE, hN, _⟩ := hh
  have f := a.fr b
  have ga := a.1
  have m3 := m_g409s (e := e) ga a.2.2.2.1 (by omega) a.2.2.2.2.2.1 (Nat.zero_le 1) (by rw [f.2.2.2.1]; decide) (by rw [f.2.2.2.1]; decide) hN
  rw [f.2.2.2.1] at m3
  have rj2 := rj1.tr a.2.1
  have pn := ga.pn
  have lA1 : (A1 ++ A).length = A1.length + A.length := List.length_append
  by_cases z : k2 = 5 ∧ v2 = 41
  · obtain ⟨rfl, rfl⟩ := z
    have hpq := ga.pq (by omega)
    obtain ⟨M3, j1, a3, j1f⟩ := a.jn b (by omega) (r := 1) (by omega) ⟨Nat.le_refl _, Or.inl rfl⟩ (hR.mono (by omega)) (by omega) (by omega) (e + 2)
    have e57 : M3 0 57 - 1 = nI (o + 1) := by rw [a3.2.2.2.1]; exact nI_sub (b := 1) (by omega) (by omega)
    have e58 : M3 0 58 - 1 = nI o := by rw [a3.2.2.2.2.1]; exact nI_sub (b := 1) (by omega) (by omega)
    have e42 : M3 42 (o + 1) = nI c := by rw [j1f _ _ (by omega) (by omega) (by omega), a.2.2.1.2.1 _ _ (by omega) (by omega) (by omega) (by omega) (by omega)]; exact h42
    have t3 : Tk x o la lb m C M C2 M3 (A1 ++ A) (B1 ++ (B ++ opz R)) [] := Tk.tr (o2 := o + 1) (by omega) tk1 a3.2.2.1 (by omega)
    have lo : (B1 ++ (B ++ opz R)).length = B1.length + (B.length + R.length) := by rw [List.length_append, List.length_append, opz_l]
    have t3' : Tk x o la lb m C M C2 (am_u2 (am_u2 M3 0 57 (M3 0 57 - 1)) 0 58 (M3 0 58 - 1)) (A1 ++ A) (B1 ++ (B ++ opz R)) [] := t3.sm ((Sm.rf.u0 (j := 57) (by omega) _).u0 (j := 58) (by omega) _)
    obtain ⟨M5, j5, t5, j5f⟩ := m_ad (J := J2) (by rw [u2_p (by omega), u2_p (by omega)]; exact (a3.fr b).1) t3' (by rw [lo]; omega) (c, 0) (u := M3 42 (o + 1)) (w := 0) e42 rfl (e + 3)
    have g3 : Gd T n C2 M5 J2 p2 q2 5 41 w2 := ((a3.1.u0 (i := 57) (by omega) _).u0 (i := 58) (by omega) _).wr (fun _ _ _ _ => rfl) (fun b hb => j5f _ _ (by omega) (by omega) (by omega)) (fun b => j5f _ _ (by omega) (by omega) (by omega)) rfl
    obtain ⟨C4, M4, J4, e1, e2, f1, f2, f3, f4⟩ := g3.gox (by omega) (by omega) (x := x) (Jc := Jc) d (e + 2)
    have m4 := m3.trans (m_cl4 ga (by omega) j1 j5 e2)
    have l3 := Lp_go (e := e) a.2.2.2.2.2.2 m4
    have t4 : Tk x o la lb m C M C4 M4 (A1 ++ A) (B1 ++ (B ++ opz R) ++ [(c, 0)]) [] := (t5.cl f1).sm f2.sm
    have fr : ∀ a j, a ≠ 0 → a ≠ 37 → a ≠ 38 → M4 a j = M3 a j := fun a j h1 h2 h3 => by rw [f2 _ _ (fun z => by omega), j5f _ _ (by omega) h2 h3, u2_c h1, u2_c h1]
    refine ⟨C4, M4, J4, tkY ga d e1, ?_⟩
    rcases f4 with ⟨p4, q4, k4, v4, w4, g4, z1, z2, _⟩ | ⟨bd, _⟩
    · have a4 : Acc T n x o la lb m C M J C4 M4 J4 (A1 ++ A) (B1 ++ (B ++ opz R) ++ [(c, 0)]) [] p4 q4 k4 v4 w4 1 ph := by
        refine ⟨g4, rj2.tr f3, t4, ?_, ?_, ?_, ?_⟩
        · rw [f2 _ _ (fun _ => by omega), j5f _ _ (by omega) (by omega) (by omega), u2_p (by omega), u2_s]; exact e57
        · rw [f2 _ _ (fun _ => by omega), j5f _ _ (by omega) (by omega) (by omega), u2_s]; exact e58
        · rw [fr _ _ (by omega) (by omega) (by omega), j1f _ _ (by omega) (by omega) (by omega), a.2.2.1.2.1 _ _ (by omega) (by omega) (by omega) (by omega) (by omega)]; exact h40
        · rw [f2 _ _ (fun _ => by omega), j5f _ _ (by omega) (by omega) (by omega), u2_p (by omega), u2_p (by omega), j1f _ _ (by omega) (by omega) (by omega)]; exact a.2.2.2.2.2.2
      refine Or.inl ⟨l3.1 rfl g4.m8, _, a4.emC (Jc := Jc) (by rw [lA1]; omega) (c, 0) (d + 2), A1 ++ A ++ [(c, 0)], B1 ++ (B ++ opz R) ++ [(c, 0)], [], p4, q4, k4, v4, w4, a4.em (c, 0), ?_, ?_, by omega, fun c hc => absurd hc (List.not_mem_nil), Nat.zero_le _, ?_, trivial, ?_⟩
      · rw [List.length_append, lA1]; show p + (A1.length + A.length + 1) ≤ p4; omega
      · rw [List.length_append, lo]; show p + (B1.length + (B.length + R.length) + 1) + 0 ≤ p4; omega
      · rw [show B1 ++ (B ++ opz R) ++ [(c, 0)] ++ opz [] = B1 ++ (B ++ opz R) ++ [(c, 0)] from List.append_nil _]
        exact hE1.op hE (by omega) (by omega)
      · rw [fr _ _ (by omega) (by omega) (by omega), j1f _ _ (by omega) (by omega) (by omega), a.2.2.1.2.1 _ _ (by omega) (by omega) (by omega) (by omega) (by omega)]; exact h41
    · exact Or.inr ⟨l3.2 (Or.inr bd.m8), t4.bdx (rj2.tr f3) bd (by rw [lA1]; omega)⟩
  · have m4 := m3.trans (m_cln ga (fk := 4) (Or.inr (Or.inl rfl)) (fun _ => z) (fun y => absurd y (by decide)) (fun y => absurd y (by decide)))
    have l3 := Lp_go (e := e) a.2.2.2.2.2.2 m4
    have t3 : Tk x o la lb m C M C2 M2 (A1 ++ A) (B1 ++ B) ([] ++ R.reverse) := Tk.tr (o2 := o + 1) (by omega) tk1 a.2.2.1 (by omega)
    refine ⟨Fc C2 1 p2, Fmm M2 1 p2, J2, tkN ga (by decide) z d, Or.inr ⟨l3.2 (Or.inl rfl), ((t3.cl (Fc_f C2 1 p2)).sm (Fmm_f M2 1 p2).sm).bdx rj2 (ga.fl (by omega) (by omega)) (by rw [lA1]; omega)⟩⟩
end LPR
section LMN
variable {T : Nat → Nat} {n p q k v o h la lb m fk ph op bs r : Nat} {w : List Nat} {x : Bool} {C M C' M' C2 M2 : tI} {J J' J2 Jc : tJ} {A B A2 B2 : List (Nat × Int)} {R R2 Q : List Nat} {e : Nat}
theorem mnc (hv : v = 30 ∨ v = 31) (g : Gd T n C M J p q 3 v w) : ∃ c, (c = 15 ∨ c = 16) ∧ nI v ^^^ (-1) = l_cc (c, 0) ∧ ∀ (e : Nat) (M2 : tI) (J2 : tJ) (v1 v3 : Value) (s : Int32), am_G (am_ev (e + 4)) 164 [.ref 0] (M, J, tm_R, tm_S, 77, 21637) = some (none, (M2, J2, tm_R, tm_S, 77, 21637)) → am_call (am_G (am_ev (e + 4)) 165 [.ref 0, .int 40] (M, J, tm_R, tm_S, 77, 21637)) (fun r M => am_ev (e + 5) 180 127 [.ref 0, v1, .int s, v3] (r.toList ++ []) M) = am_ev (e + 5) 180 179 [.ref 0, v1, .int s, .int (nI c)] [] (M2, J2, tm_R, tm_S, 77, 21637) := by
  rcases hv with rfl | rfl
  · exact ⟨15, Or.inl rfl, by decide, fun e M2 J2 v1 v3 s j1 => m_opM30 g v1 v3 s j1⟩
  · exact ⟨16, Or.inr rfl, by decide, fun e M2 J2 v1 v3 s j1 => m_opM31 g v1 v3 s j1⟩
theorem c_f95 (hv : v = 30 ∨ v = 31) (g : Gd T n C M J p q 3 v w) (a : Int32) (d : Nat) : am_G (am_ev (d + 1)) 103 [.ref 1, .int a] (C, Jc, (tc_R x), tc_S, 289, 11479) = am_call (am_G (am_ev d) 76 [.ref 1] (C, Jc, (tc_R x), tc_S, 289, 11479)) (fun r M => am_ev (d + 1) 103 95 [.ref 1, .int a, .int (nI v)] (r.toList ++ []) M) := by
  have n4 : ¬ C 1 4 = 4 := fun z => by have := (g.ke (j := 4) rfl (by omega)).mp z; omega
  have y3 : C 1 4 = 3 := (g.ke (j := 3) rfl (by omega)).mpr rfl
  obtain ⟨v1, v2, _⟩ := g.t3 rfl
  rw [b103_0, if_neg n4, if_pos y3, v2, if_neg (show ¬ nI v < 25 from nI_nlt (b := 25) (by omega) (by omega)), if_pos (show (29 : Int32) < nI v from nI_lt (a := 29) (by omega) (by omega)), b103_71, if_pos y3]
  rcases hv with rfl | rfl
  · rw [if_pos (by decide : nI 30 = 30)]
  · rw [if_neg (by decide : ¬ nI 31 = 30), if_pos (by decide : nI 31 = 31)]
theorem fac_mn (IH : ∀ h', h = h' + 1 → ArP T n x Jc (o + 1) h' 101 7 5 (3 * h' + 3) 20 N5) (ho : o + h = 8) (hv : v = 30 ∨ v = 31) (g : Gd T n C M J p q 3 v w) (b : Fr x o fk ph bs la lb m C M) (h61 : M 0 61 = 0) (hla : la ≤ p) (hlb : lb ≤ p) (hm : 4 * m ≤ p + 24 * o + 28) (d : Nat) {s : Int32} (m0 : am_G (am_ev (e + 5)) 180 [.ref 0] (M, J, tm_R, tm_S, 77, 21637) = am_call (am_G (am_ev (e + 4)) 165 [.ref 0, .int 40] (am_u2 M 41 o 0, J, tm_R, tm_S, 77, 21637)) (fun r M => am_ev (e + 5) 180 127 [.ref 0, .int (nI o), .int s, am_un] (r.toList ++ []) M)) : Out e x C M J Jc (am_G (am_ev (d + 4 * h + 5)) 103 [.ref 1, .int (nI o)] (C, Jc, (tc_R x), tc_S, 289, 11479)) (Lp e M J) (Ar T n x o la lb m p ph 7 (3 * h + 1) N7 C M J) := by
  obtain ⟨b51, b57, b58, b39, b40, b43, bC, b50, b60⟩ := b
  have hpq := g.pq (by omega)
  have g1 := g.uM (c := 41) (i := o) (by omega) 0
  obtain ⟨c, hc15, ccd, mop⟩ := mnc hv g1
  have tk0 : Tk x o la lb m C M C (am_u2 M 41 o 0) [] [] [] := (Tk.rf bC b50 b60).sm (Sm.rf.uo (Or.inr rfl) 0)
  obtain ⟨C1, M1, J1, e1, e2, f1, f2, f3, f4⟩ := g1.gox (by omega) (by omega) (x := x) (Jc := Jc) (d + 4 * h + 2) (e + 2)
  have tk1 : Tk x o la lb m C M C1 M1 [] [] [] := (tk0.cl f1).sm f2.sm
  have mA := m0.trans (mop e M1 J1 (.int (nI o)) am_un s e2)
  have c95 : am_G (am_ev (d + 4 * h + 5)) 103 [.ref 1, .int (nI o)] (C, Jc, (tc_R x), tc_S, 289, 11479) = am_ev (d + 4 * h + 5) 103 95 [.ref 1, .int (nI o), .int (nI v)] [] (C1, Jc, (tc_R x), tc_S, 289, 11479) := by
    refine (c_f95 hv g (nI o) (d + 4 * h + 4)).trans ?_
    refine (congrArg (fun z => am_call z _) e1).trans ?_
    rw [am_call_s, am_toN]
  have c100 : ∀ C3, am_G (am_ev (d + 4 * h + 4)) 104 [.ref 1, .int (nI o)] (C1, Jc, (tc_R x), tc_S, 289, 11479) = some (none, (C3, Jc, (tc_R x), tc_S, 289, 11479)) → am_G (am_ev (d + 4 * h + 5)) 103 [.ref 1, .int (nI o)] (C, Jc, (tc_R x), tc_S, 289, 11479) = am_ev (d + 4 * h + 5) 103 100 [.ref 1, .int (nI o), .int (nI v)] [] (C3, Jc, (tc_R x), tc_S, 289, 11479) := fun C3 z => by
    rw [c95, b103_95, z, am_call_s, am_toN]
  -- the class at a fault: it comes to its end
  have fin : ∀ C3 M3 J3, am_G (am_ev (d + 4 * h + 4)) 104 [.ref 1, .int (nI o)] (C1, Jc, (tc_R x), tc_S, 289, 11479) = some (none, (C3, Jc, (tc_R x), tc_S, 289, 11479)) → Lp e M J = some (none, (M3, J3, tm_R, tm_S, 77, 21637)) → BdX x C M J C3 M3 J3 → Out e x C M J Jc (am_G (am_ev (d + 4 * h + 5)) 103 [.ref 1, .int (nI o)] (C, Jc, (tc_R x), tc_S, 289, 11479)) (Lp e M J) (Ar T n x o la lb m p ph 7 (3 * h + 1) N7 C M J) := fun C3 M3 J3 z1 z2 bx => by
    obtain ⟨C4, d1, d2, d3⟩ := bx.2.2.2.fa100 (Jc := Jc) (.int (nI o)) (nI v) (d + 4 * h + 3)
    exact ⟨C4, M3, J3, (c100 C3 z1).trans d1, Or.inr ⟨z2, bx.cl d2 d3⟩⟩
  rcases f4 with ⟨p1, q1, k1, v1, w1, g2, z1, z2, _⟩ | ⟨bd, _⟩
  · have i40 : M1 40 o = nI ph := by rw [f2 _ _ (fun z => by omega), u2_c (by omega)]; exact b40
    have i41 : M1 41 o = 0 := by rw [f2 _ _ (fun z => by omega), u2_s]
    have i57 : M1 0 57 = nI (o + 1) := by rw [f2 _ _ (fun _ => by omega), u2_c (by omega)]; exact b57
    have i58 : M1 0 58 = nI o := by rw [f2 _ _ (fun _ => by omega), u2_c (by omega)]; exact b58
    have i60 : M1 0 60 = nI m := by rw [f2 _ _ (fun _ => by omega), u2_c (by omega)]; exact b60
    have i61 : M1 0 61 = 0 := by rw [f2 _ _ (fun _ => by omega), u2_c (by omega)]; exact h61
    by_cases z : k1 = 5 ∧ v1 = 40
    · obtain ⟨rfl, rfl⟩ := z
      obtain ⟨C2, M2, J2, s1, c2, m2, q1', sm2, q3, fin2⟩ := opn (x := x) (Jc := Jc) g2 i57 i58 i60 (by omega) 3 (d + 4 * h) e
      have tk2 : Tk x o la lb m C M C2 M2 [] [] [] := (tk1.cl q1').sm sm2
      have rj2 : JF J J2 := f3.tr q3
      rcases fin2 with ⟨rfl, o8, ⟨p3, q3, k3, v3, w3, g3, z3⟩, j57, j58, j39, j40, j41, j43, j40o, j61, j60, j41o⟩ | ⟨bd, hs1⟩
      · obtain ⟨h', rfl⟩ : ∃ h', h = h' + 1 := ⟨h - 1, by omega⟩
        have mB := mA.trans (m_opMY (o := o) g2 _ _ (nI c) m2 j57 (by omega) g3.m8)
        have l1 := (Lp_op (e := e) (J := J) h61 (s := 0) (Or.inl rfl) mB).1 (by rw [u2_c (by omega)]; exact g3.m8)
        rw [u2_id _ 0 61 _ (by rw [u2_c (by omega), j61]; exact i61)] at l1
        have tk3 : Tk x o la lb m C M C2 (am_u2 M2 42 (o + 1) (nI c)) [] [] [] := tk2.sm (Sm.rf.ui (by omega) (by omega) (by omega) _)
        have g4 := g3.uM (c := 42) (i := o + 1) (by omega) (nI c)
        have fr : Fr x (o + 1) 3 0 m la lb m C2 (am_u2 M2 42 (o + 1) (nI c)) := ⟨by rw [tk3.2.1 _ _ (by omega) (by omega) (by omega) (by omega) (by omega)]; exact b51, by rw [u2_c (by omega)]; exact j57, by rw [u2_c (by omega)]; exact j58, by rw [u2_c (by omega)]; exact j39, by rw [u2_c (by omega)]; exact j40, by rw [u2_c (by omega)]; exact j43, tk3.2.2.1, tk3.2.2.2.2.1, by rw [u2_c (by omega)]; exact j60⟩
        have ed : d + 4 * (h' + 1) + 3 = d + 4 * h' + 7 := by omega
        obtain ⟨C3, M3, J3, c3, hh⟩ := IH h' rfl 3 0 m la lb m p3 q3 k3 v3 w3 C2 _ J2 d e g4 fr (by rw [u2_c (by omega), j61]; exact i61) (by omega) (by omega) (by omega) (Or.inl (by omega)) (by omega) (by omega) ⟨Nat.le_refl _, Or.inl rfl⟩
        rw [← ed] at c3
        have p17 : am_G (am_ev (d + 4 * (h' + 1) + 4)) 104 [.ref 1, .int (nI o)] (C1, Jc, (tc_R x), tc_S, 289, 11479) = am_ev (d + 4 * (h' + 1) + 4) 104 17 [.ref 1, .int (nI o)] [] (C3, Jc, (tc_R x), tc_S, 289, 11479) := by
          rw [b104_0]
          refine (congrArg (fun z => am_call z _) c2).trans ?_
          rw [am_call_s, am_toL, b104_7, if_neg (by decide : ¬ (1 : Int32) = 0), nI_1, c3, am_call_s, am_toN]
        rcases hh with ⟨l2, ar⟩ | ⟨l2, bx⟩
        · obtain ⟨C4, M4, J4, c4, hh⟩ := cls3 (Jc := Jc) (e := e) (by omega) tk3 rj2 fr (show p < p3 by omega) hla hlb (by omega) ar (d + 4 * (h' + 1))
          have p24 : am_G (am_ev (d + 4 * (h' + 1) + 4)) 104 [.ref 1, .int (nI o)] (C1, Jc, (tc_R x), tc_S, 289, 11479) = am_ev (d + 4 * (h' + 1) + 4) 104 24 [.ref 1, .int (nI o)] [] (C4, Jc, (tc_R x), tc_S, 289, 11479) := by
            rw [p17, b104_17]
            refine (congrArg (fun z => am_call z _) c4).trans ?_
            rw [am_call_s, am_toN]
          rcases hh with ⟨l3, A1, B1, p4, q4, k4, v4, w4, g5, rj5, t5, fr5, k61, lA5, lB5, hE5, k40, k41, k42⟩ | ⟨l3, bx⟩
          · have gp5 := g5.pn
            obtain ⟨C5, M5, J5, c5, hh⟩ := IH h' rfl 4 0 m (la + A1.length) (lb + B1.length) m p4 q4 k4 v4 w4 C4 M4 J4 d e g5 fr5 k61 (by omega) (by omega) (by omega) (Or.inl (by omega)) (by omega) (by omega) ⟨Nat.le_refl _, Or.inl rfl⟩
            rw [← ed] at c5
            have p31 : am_G (am_ev (d + 4 * (h' + 1) + 4)) 104 [.ref 1, .int (nI o)] (C1, Jc, (tc_R x), tc_S, 289, 11479) = am_ev (d + 4 * (h' + 1) + 4) 104 31 [.ref 1, .int (nI o)] [] (C5, Jc, (tc_R x), tc_S, 289, 11479) := by
              rw [p24, b104_24, nI_1, c5, am_call_s, am_toN]
            rcases hh with ⟨l4, ar⟩ | ⟨l4, bx⟩
            · obtain ⟨C6, M6, J6, c6, hh⟩ := cls4 (Jc := Jc) (e := e) (ph := ph) (by omega) t5 rj5 (by rw [k40, u2_c (by omega), j40o]; exact i40) (by rw [k41, u2_c (by omega), j41o]; exact i41) hc15 (by rw [k42]; exact u2_s) fr5 (show p + A1.length + 2 ≤ p4 by omega) (show p + B1.length + 2 ≤ p4 by omega) hla hlb (by omega) hE5 ar (d + 4 * (h' + 1))
              have p38 : am_G (am_ev (d + 4 * (h' + 1) + 4)) 104 [.ref 1, .int (nI o)] (C1, Jc, (tc_R x), tc_S, 289, 11479) = some (none, (C6, Jc, (tc_R x), tc_S, 289, 11479)) := by
                rw [p31, b104_31]
                refine (congrArg (fun z => am_call z _) c6).trans ?_
                rw [am_call_s, am_toN, b104_38]
              rcases hh with ⟨l5, C7, c7, A, B, R, p2, q2, k2, v2, w2, a, lA, lB, lp, hR, hl, hE, hN⟩ | ⟨l5, bx⟩
              · refine ⟨C7, M6, J6, ?_, Or.inl ⟨by rw [l1, l2, l3, l4, l5], A, B, R, p2, q2, k2, v2, w2, a, lA, lB, lp, hR, hl, hE.mono (by omega), hN⟩⟩
                rw [c100 C6 p38, b103_100, ccd]
                have c7' : am_G (am_ev (d + 4 * (h' + 1) + 4)) 41 [.ref (tc_P (!x) + 33), .int (l_cc (c, 0))] (C6, Jc, (tc_R x), tc_S, 289, 11479) = some (none, (C7, Jc, (tc_R x), tc_S, 289, 11479)) := by
                  rw [b41_0]; rw [b41_0] at c7; exact c7
                rw [c7', am_call_s, am_toN, b103_113, b103_140]
              · exact fin C6 M6 J6 p38 (by rw [l1, l2, l3, l4, l5]) bx
            · obtain ⟨C6, d1, d2, d3⟩ := bx.2.2.2.pa31 (Jc := Jc) (.int (nI o)) (d + 4 * (h' + 1) + 1)
              exact fin C6 M5 J5 (p31.trans d1) (by rw [l1, l2, l3, l4]) (BdX.of t5.rc t5.rm rj5 (bx.cl d2 d3))
          · obtain ⟨C6, d1, d2, d3⟩ := bx.2.2.2.pa24 (Jc := Jc) (nI o) (d + 4 * h' + 2)
            exact fin C6 M4 J4 (p24.trans d1) (by rw [l1, l2, l3]) (bx.cl d2 d3)
        · obtain ⟨C6, d1, d2, d3⟩ := bx.2.2.2.pa17 (Jc := Jc) (nI o) (d + 4 * h' + 2)
          exact fin C6 M3 J3 (p17.trans d1) (by rw [l1, l2]) (BdX.of tk3.rc tk3.rm rj2 (bx.cl d2 d3))
      · have mB := mA.trans (m_opMYb g2 _ _ (nI c) m2 bd.m8)
        have l1 := (Lp_op (e := e) (J := J) h61 (s := 0) (Or.inl rfl) mB).2 bd.m8
        have bx : BdX x C M J C2 (am_u2 M2 0 61 0) J2 := (tk2.sm (Sm.rf.u0 (by omega) 0)).bdx rj2 (bd.wr (fun _ => rfl) (fun b hb => u2_p (by omega))) (by show la + 0 ≤ 1600; omega)
        have p7 : am_G (am_ev (d + 4 * h + 4)) 104 [.ref 1, .int (nI o)] (C1, Jc, (tc_R x), tc_S, 289, 11479) = am_ev (d + 4 * h + 4) 104 7 [.ref 1, .int (nI o)] [.int s1] (C2, Jc, (tc_R x), tc_S, 289, 11479) := by
          rw [b104_0]
          refine (congrArg (fun z => am_call z _) c2).trans ?_
          rw [am_call_s, am_toL]
        rcases hs1 with rfl | ⟨rfl, o8⟩
        · exact fin C2 _ J2 (by rw [p7, b104_7, if_pos rfl, b104_38]) l1 bx
        · obtain ⟨h', rfl⟩ : ∃ h', h = h' + 1 := ⟨h - 1, by omega⟩
          obtain ⟨C3, d1, d2, d3⟩ := bx.2.2.2.sum (Jc := Jc) (nI o + 1) (d + 4 * h' + 2)
          obtain ⟨C4, d4, d5, d6⟩ := d3.pa17 (Jc := Jc) (nI o) (d + 4 * h' + 2)
          refine fin C4 _ J2 ?_ l1 ((bx.cl d2 d3).cl d5 d6)
          rw [p7, b104_7, if_neg (by decide : ¬ (1 : Int32) = 0)]
          refine (congrArg (fun z => am_call z _) d1).trans ?_
          rw [am_call_s, am_toN]
          exact d4
    · have mB := mA.trans (m_opMN g2 z _ _ (nI c))
      have l1 := (Lp_op (e := e) (J := J) h61 (s := 0) (Or.inl rfl) mB).2 (by rw [Fmm_8]; decide)
      refine fin (Fc C1 1 p1) _ J1 ?_ l1 (((tk1.cl (Fc_f C1 1 p1)).sm ((Fmm_f M1 1 p1).sm.u0 (by omega) 0)).bdx f3 ((g2.fl (by omega) (by omega)).wr (fun _ => rfl) (fun b hb => u2_p (by omega))) (by show la + 0 ≤ 1600; omega))
      rw [b104_0]
      refine (congrArg (fun z => am_call z _) (opnN (j := 40) g2 (by decide) z (nI o) (d + 4 * h + 1))).trans ?_
      rw [am_call_s, am_toL, b104_7, if_pos rfl, b104_38]
  · have mB := mA.trans (m_opMb bd.n8 _ _ (nI c))
    have l1 := (Lp_op (e := e) (J := J) h61 (s := 0) (Or.inl rfl) mB).2 bd.m8
    have bx : BdX x C M J C1 (am_u2 M1 0 61 0) J1 := (tk1.sm (Sm.rf.u0 (by omega) 0)).bdx f3 (bd.wr (fun _ => rfl) (fun b hb => u2_p (by omega))) (by show la + 0 ≤ 1600; omega)
    obtain ⟨C3, d1, d2, d3⟩ := bx.2.2.2.pair (Jc := Jc) (nI o) (d + 4 * h + 1)
    exact fin C3 _ J1 d1 l1 (bx.cl d2 d3)
end LMN
