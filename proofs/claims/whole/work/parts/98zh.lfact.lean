/-! LAWS: facts -/
def Tr (T : Nat → Nat) (n : Nat) (x : Bool) (o la lb m p r s : Nat) (N : Nat → Nat → Prop) (C M : tI) (J : tJ) (C' M' : tI) (J' : tJ) : Prop := ∃ A B R p' q' k' v' w' ph', Acc T n x o la lb m C M J C' M' J' A B R p' q' k' v' w' 1 ph' ∧ 1 ≤ ph' ∧ ph' ≤ 2 ∧ (ph' ≤ 1 → N5 k' v') ∧ p + A.length ≤ p' ∧ p + B.length + R.length ≤ p' ∧ p < p' ∧ Pn r R ∧ 4 * (m + R.length) ≤ p' + 24 * o + 28 ∧ EqB s A (B ++ opz R) ∧ N k' v'
def TsP (T : Nat → Nat) (n : Nat) (x : Bool) (Jc : tJ) (o h mi dp r s mb : Nat) (N : Nat → Nat → Prop) : Prop := ∀ (fk bs la lb m p q k v : Nat) (w : List Nat) (C M : tI) (J : tJ) (d e : Nat), Gd T n C M J p q k v w → Fr x o fk 0 bs la lb m C M → M 0 61 = 0 → M 41 o = 1 → la ≤ p → lb ≤ p → 4 * m ≤ p + 24 * o + mb → (fk = 1 ∨ fk = 5) → Stq M bs m r → Out e x C M J Jc (am_G (am_ev (d + 4 * h + dp)) mi [.ref 1, .int (nI o)] (C, Jc, (tc_R x), tc_S, 289, 11479)) (Lp e M J) (Tr T n x o la lb m p r s N C M J)
section LFC
variable {T : Nat → Nat} {n p q k v o h la lb m fk ph op bs r : Nat} {w : List Nat} {x : Bool} {C M C' M' C2 M2 : tI} {J J' J2 Jc : tJ} {A B A2 B2 : List (Nat × Int)} {R R2 Q : List Nat} {e : Nat}
theorem fk15 (b : M 39 o = nI fk) (hfk : fk = 1 ∨ fk = 5) : M 39 o = 1 ∨ M 39 o = 5 := by
  rcases hfk with rfl | rfl
  · exact Or.inl b
  · exact Or.inr b
/-- a fact begins -/
theorem m_op33t (h57 : M 0 57 = nI (o + 1)) (ho : o ≤ 9) (h39 : M 39 o = 1 ∨ M 39 o = 5) (h41 : M 41 o = 1) : am_G (am_ev (e + 5)) 180 [.ref 0] (M, J, tm_R, tm_S, 77, 21637) = am_ev (e + 5) 180 33 [.ref 0, .int (nI o), am_un, am_un] [.int 1] (M, J, tm_R, tm_S, 77, 21637) := by
  obtain ⟨s, t1, t2⟩ := m_op33 (e := e) (J := J) h57 ho
  rcases t2 with ⟨rfl, _⟩ | ⟨_, ⟨z1, z2⟩ | z⟩
  · exact t1
  · exact absurd h39 (fun z => z.elim z1 z2)
  · rw [h41] at z; exact absurd z (by decide)
theorem ow3 : (ow 23).length = 3 := by decide +kernel
theorem rep_s (j : Nat) : List.replicate (j + 1) 22 = 22 :: List.replicate j 22 := rfl
theorem rep_r (j : Nat) : (List.replicate j 22).reverse ++ [22] = (List.replicate (j + 1) 22).reverse := by
  rw [rep_s, List.reverse_cons]
def Nx (o m j p q k v : Nat) : Prop := 4 * (m + j) ≤ p + 24 * o + 16 ∧ (k = 3 → 4 * (m + j) ≤ p + 24 * o + 15) ∧ (4 * (m + j) ≤ p + 24 * o + 12 ∨ (k = 3 → q = p + (ow v).length))
theorem not_loop (ho : o ≤ 8) (b : Fr x o fk 0 bs la lb m C M) (hfk : fk = 1 ∨ fk = 5) (hla : la ≤ p) (hlb : lb ≤ p) (d e : Nat) : ∀ fu j (C' M' : tI) (J' : tJ) (p' q' k' v' : Nat) (w' : List Nat), 1600 - p' ≤ fu → Acc T n x o la lb m C M J C' M' J' [] [] (List.replicate j 22) p' q' k' v' w' 0 0 → M' 41 o = 1 → p + j ≤ p' → Nx o m j p' q' k' v' →
    (∃ i C2 M2 J2 p2 q2 k2 v2 w2, am_ev (d + 8) 98 4 [.ref 1, .int (nI o), .int (nI (j % 2)), .int (nI j)] [] (C', Jc, (tc_R x), tc_S, 289, 11479) = am_call (am_G (am_ev (d + 7)) 79 [.ref 1, .int 5, .int 91] (C2, Jc, (tc_R x), tc_S, 289, 11479)) (fun r M => am_ev (d + 8) 98 48 [.ref 1, .int (nI o), .int (nI (i % 2)), .int (nI i)] (r.toList ++ []) M) ∧ Lp e M' J' = Lp e M2 J2 ∧ Acc T n x o la lb m C M J C2 M2 J2 [] [] (List.replicate i 22) p2 q2 k2 v2 w2 0 0 ∧ M2 41 o = 1 ∧ p + i ≤ p2 ∧ 4 * (m + i) ≤ p2 + 24 * o + 16 ∧ ¬ (k2 = 3 ∧ v2 = 23)) ∨
    (∃ C2 M2 J2, am_ev (d + 8) 98 4 [.ref 1, .int (nI o), .int (nI (j % 2)), .int (nI j)] [] (C', Jc, (tc_R x), tc_S, 289, 11479) = some (none, (C2, Jc, (tc_R x), tc_S, 289, 11479)) ∧ Lp e M' J' = some (none, (M2, J2, tm_R, tm_S, 77, 21637)) ∧ BdX x C M J C2 M2 J2) := by
  intro fu
  induction fu with
  | zero =>
    intro j C' M' J' p' q' k' v' w' hfu a h41 lp hx
    have hk : k' = 1 := by
      rcases Nat.decEq k' 1 with z | z
      · have := a.1.pq z; omega
      · exact z
    subst hk
    refine Or.inl ⟨j, C', M', J', p', q', 1, v', w', ?_, rfl, a, h41, lp, hx.1, by omega⟩
    rw [b98_4]
    split
    · rfl
    · rw [a.1.cwN (c := 23) 23 rfl (by omega) (by omega), am_call_s, am_toL, b98_18, if_pos rfl]
  | succ fu ih =>
    intro j C' M' J' p' q' k' v' w' hfu a h41 lp hx
    by_cases z : k' = 3 ∧ v' = 23
    · obtain ⟨rfl, rfl⟩ := z
      have hpq := a.1.pq (by omega)
      have f := a.fr b
      obtain ⟨g, rj, t, a57, a58, a40, a61⟩ := a
      obtain ⟨x1, x2, x3⟩ := hx
      obtain ⟨M3, j2, t3, j2f⟩ := m_hb (J := J') t (by rw [List.length_reverse, List.length_replicate]; omega) (c := 22) (u := nI 22) rfl (e + 3)
      have g3 : Gd T n C' M3 J' p' q' 3 23 w' := g.wr (fun _ _ _ _ => rfl) (fun b hb => j2f _ _ (by omega) (by omega)) (fun b => j2f _ _ (by omega) (by omega)) rfl
      obtain ⟨C4, M4, J4, e1, e2, f1, f2, f3, f4⟩ := g3.gox (by omega) (by omega) (x := x) (Jc := Jc) (d + 5) (e + 2)
      have mA := (m_op33t (e := e) (J := J') a57 (by omega) (fk15 f.2.2.2.1 hfk) h41).trans (m_opNot g am_un _ _ _ j2 e2)
      have l1 := Lp_op (e := e) (J := J') a61 (s := 0) (Or.inl rfl) mA
      have t4 : Tk x o la lb m C M C4 (am_u2 M4 0 61 0) [] [] (List.replicate (j + 1) 22).reverse := by
        rw [← rep_r]; exact (t3.cl f1).sm (f2.sm.u0 (by omega) 0)
      have key : am_ev (d + 8) 98 4 [.ref 1, .int (nI o), .int (nI (j % 2)), .int (nI j)] [] (C', Jc, (tc_R x), tc_S, 289, 11479) = am_ev (d + 8) 98 4 [.ref 1, .int (nI o), .int (nI ((j + 1) % 2)), .int (nI (j + 1))] [] (C4, Jc, (tc_R x), tc_S, 289, 11479) := by
        rw [b98_4, if_neg (geL (c := 1600) 1600 rfl (by omega) (by omega)), g.cwY (c := 23) rfl, am_call_s, am_toL, b98_18, if_neg (by decide : ¬ (1 : Int32) = 0), e1, am_call_s, am_toN, b98_25]
        rcases (by omega : j % 2 = 0 ∨ j % 2 = 1) with y | y
        · rw [y, show (j + 1) % 2 = 1 by omega, if_pos (by decide : nI 0 = 0), nI_1]; rfl
        · rw [y, show (j + 1) % 2 = 0 by omega, if_neg (by decide : ¬ nI 1 = 0), nI_1]; rfl
      rw [key]
      rcases f4 with ⟨p2, q2, k2, v2, w2, g4, z1, z2, z3⟩ | ⟨bd, _⟩
      · rw [l1.1 g4.m8]
        refine ih (j + 1) C4 _ J4 p2 q2 k2 v2 w2 (by omega) ⟨g4.u0 (by omega) 0, rj.tr f3, t4, ?_, ?_, ?_, u2_s⟩ ?_ (by omega) ?_
        · rw [u2_p (by omega), f2 _ _ (fun _ => by omega), j2f _ _ (by omega) (by omega)]; exact a57
        · rw [u2_p (by omega), f2 _ _ (fun _ => by omega), j2f _ _ (by omega) (by omega)]; exact a58
        · rw [u2_c (by omega), f2 _ _ (fun z => by omega), j2f _ _ (by omega) (by omega)]; exact a40
        · rw [u2_c (by omega), f2 _ _ (fun z => by omega), j2f _ _ (by omega) (by omega)]; exact h41
        · have x2' := x2 rfl
          rcases x3 with y | y
          · exact ⟨by omega, fun _ => by omega, Or.inr (fun zz => (z3 zz).1)⟩
          · have y3 := y rfl
            rw [ow3] at y3
            refine ⟨by omega, fun zz => ?_, Or.inr (fun zz => (z3 zz).1)⟩
            have hne : p2 ≠ q' := fun e0 => by
              have pv := (g.2.2.2.2.1 (by omega)).2.2 (by omega)
              have := pv.mpr (by omega)
              exact (z3 zz).2 (by omega) (by rw [e0]; exact this.2)
            omega
      · obtain ⟨C5, d1, d2, d3⟩ := BdL.f4 (x := x) (M := am_u2 M4 0 61 0) (Jc := Jc) ⟨bd.wr (fun _ => rfl) (fun b hb => u2_p (by omega)), la, by omega, t4.2.2.1⟩ (nI o) (nI ((j + 1) % 2)) (nI (j + 1)) (d + 2)
        exact Or.inr ⟨C5, _, J4, d1, l1.2 bd.m8, BdX.cl (t4.bdx (rj.tr f3) (bd.wr (fun _ => rfl) (fun b hb => u2_p (by omega))) (by show la + 0 ≤ 1600; omega)) d2 d3⟩
    · refine Or.inl ⟨j, C', M', J', p', q', k', v', w', ?_, rfl, a, h41, lp, hx.1, z⟩
      rw [b98_4]
      split
      · rfl
      · rw [a.1.cwN (c := 23) 23 rfl (by omega) z, am_call_s, am_toL, b98_18, if_pos rfl]
/-- a sign that compares -/
theorem m_gcs (hv : v = 60 ∨ v = 62 ∨ v = 61) {M3 M4 : tI} {J4 : tJ} (g : Gd T n C M J p q 5 v w) (h57 : M 0 57 = nI (o + 1)) (ho : o ≤ 9) (h40 : M 40 o = 0) (h39 : M 39 o = 1 ∨ M 39 o = 5) (j1 : am_G (am_ev (e + 4)) 175 [.ref 0, .int (nI 5)] (M, J, tm_R, tm_S, 77, 21637) = some (none, (M2, J, tm_R, tm_S, 77, 21637))) (g2 : Gd T n C M2 J p q 5 v w) (j2 : am_G (am_ev (e + 4)) 176 [.ref 0, .int (nI (cdo v))] (M2, J, tm_R, tm_S, 77, 21637) = some (none, (M3, J, tm_R, tm_S, 77, 21637))) (j3 : am_G (am_ev (e + 4)) 164 [.ref 0] (am_u2 M3 40 o 1, J, tm_R, tm_S, 77, 21637) = some (none, (M4, J4, tm_R, tm_S, 77, 21637))) : am_G (am_ev (e + 5)) 181 [.ref 0] (M, J, tm_R, tm_S, 77, 21637) = some (some (.int 1), (am_u2 M4 0 61 0, J4, tm_R, tm_S, 77, 21637)) := by
  obtain ⟨s, t1, t2⟩ := m_go175 (e := e) (f := 0) g h57 ho h40 (by omega) (fun _ => by omega)
  rcases t2 with ⟨rfl, _⟩ | ⟨rfl, z1, z2⟩
  · rw [t1]
    rcases hv with rfl | rfl | rfl
    · exact m_gc60 g ho h40 _ j1 g2 j2 j3
    · exact m_gc62 g ho h40 _ j1 g2 j2 j3
    · exact m_gc61 g ho h40 _ j1 g2 j2 j3
  · exact absurd h39 (fun z => z.elim z1 z2)
theorem Acc.cm (a : Acc T n x o la lb m C M J C' M' J' A B R p q 5 v w 1 0) (b : Fr x o fk 0 bs la lb m C M) (hfk : fk = 1 ∨ fk = 5) (ho : o ≤ 9) (hv : v = 60 ∨ v = 62 ∨ v = 61) (hs : Stq M bs m 5) (hR : Pn 5 R) (h5 : m + R.length ≤ 500) (h5' : m < 500) (hB : lb + B.length + R.length ≤ 1600) (hA : la + A.length ≤ 1600) (d : Nat) : ∃ C2 M2 J2, am_G (am_ev (d + 2)) 76 [.ref 1] (C', Jc, (tc_R x), tc_S, 289, 11479) = some (none, (C2, Jc, (tc_R x), tc_S, 289, 11479)) ∧ ((Lp e M' J' = Lp e M2 J2 ∧ M2 41 o = M' 41 o ∧ ∃ p2 q2 k2 v2 w2, p < p2 ∧ Acc T n x o la lb m C M J C2 M2 J2 A (B ++ opz R) [cdo v] p2 q2 k2 v2 w2 0 1) ∨ (Lp e M' J' = some (none, (M2, J2, tm_R, tm_S, 77, 21637)) ∧ BdX x C M J C2 M2 J2)) := by
  have f := a.fr b
  obtain ⟨M2, M3, C4, M4, J4, j1, g2, j2, c1, j3, f2, f41, fin⟩ := a.step (e := e) b ho (r := 5) (by omega) hs hR h5 h5' hB (by omega) (by omega) hA (cdo v) (fun M => am_u2 M 40 o 1) (ph2 := 1) (fun M3 h => ⟨Sm.rf.uo (Or.inl rfl) 1, fun _ => u2_c (by omega), fun _ => u2_c (by omega), u2_s⟩) (Jc := Jc) d
  have m1 := m_gcs (e := e) hv a.1 a.2.2.2.1 ho a.2.2.2.2.2.1 (fk15 f.2.2.2.1 hfk) j1 g2 j2 j3
  have l1 := Lp_go (e := e) (J := J') a.2.2.2.2.2.2 m1
  have e8 : am_u2 M4 0 61 0 0 8 = M4 0 8 := u2_p (by omega)
  refine ⟨C4, am_u2 M4 0 61 0, J4, c1, ?_⟩
  rcases fin with ⟨p2, q2, k2, v2, w2, z1, _, a4, h8⟩ | ⟨h8, bx⟩
  · exact Or.inl ⟨l1.1 rfl (e8.trans h8), by rw [u2_c (by omega), f2 _ _ (fun z => by omega), u2_c (by omega)]; exact f41 o, p2, q2, k2, v2, w2, z1, a4⟩
  · exact Or.inr ⟨l1.2 (Or.inr (by rw [e8]; exact h8)), bx⟩
/-- behind the test in brackets: the closing one -/
theorem cls5 (ho : o + 1 ≤ 8) {C1 M1 : tI} {J1 : tJ} (tk1 : Tk x o la lb m C M C1 M1 [] [] []) (rj1 : JF J J1) (b : Fr x (o + 1) 5 0 m la lb m C1 M1) {p1 : Nat} (hp1 : p < p1) (hla : la ≤ p) (hlb : lb ≤ p) {s : Nat} (hh : Tr T n x (o + 1) la lb m p1 1 s (fun k v => ¬ (k = 3 ∧ v = 22) ∧ ¬ (k = 3 ∧ v = 21)) C1 M1 J1 C2 M2 J2) (d : Nat) : Out e x C M J Jc (am_G (am_ev (d + 3)) 80 [.ref 1, .int 5, .int (nI 93)] (C2, Jc, (tc_R x), tc_S, 289, 11479)) (Lp e M2 J2) (fun C4 M4 J4 => ∃ A B p4 q4 k4 v4 w4, Acc T n x o la lb m C M J C4 M4 J4 A B [] p4 q4 k4 v4 w4 1 2 ∧ p + A.length < p4 ∧ p + B.length < p4 ∧ EqB s A B) := by
  obtain ⟨A, B, R, p2, q2, k2, v2, w2, ph', a, ph1, ph2, hN5, lA, lB, lp, hR, hl, hE, hN⟩ := hh
  have f := a.fr b
  have ga := a.1
  have m3 := m_g409t (e := e) ga a.2.2.2.1 (by omega) a.2.2.2.2.2.1 ph1 ph2 (Or.inr f.2.2.2.1) hN5 hN.1 hN.2
  rw [f.2.2.2.1] at m3
  have rj2 := rj1.tr a.2.1
  have pn := ga.pn
  by_cases z : k2 = 5 ∧ v2 = 93
  · obtain ⟨rfl, rfl⟩ := z
    have hpq := ga.pq (by omega)
    obtain ⟨M3, j1, a3, j1f⟩ := a.jn b (by omega) (r := 1) (by omega) ⟨Nat.le_refl _, Or.inl rfl⟩ hR (by omega) (by omega) (e + 2)
    have e57 : M3 0 57 - 1 = nI (o + 1) := by rw [a3.2.2.2.1]; exact nI_sub (b := 1) (by omega) (by omega)
    have e58 : M3 0 58 - 1 = nI o := by rw [a3.2.2.2.2.1]; exact nI_sub (b := 1) (by omega) (by omega)
    have g3 : Gd T n C2 (am_u2 (am_u2 (am_u2 M3 0 57 (M3 0 57 - 1)) 0 58 (M3 0 58 - 1)) 40 o 2) J2 p2 q2 5 93 w2 := ((a3.1.u0 (by omega) _).u0 (by omega) _).uM (by omega) _
    obtain ⟨C4, M4, J4, e1, e2, f1, f2, f3, f4⟩ := g3.gox (by omega) (by omega) (x := x) (Jc := Jc) d (e + 2)
    have m4 := m3.trans (m_cl5 ga (by omega) j1 a3.2.2.2.1 e2)
    have l3 := Lp_go (e := e) a.2.2.2.2.2.2 m4
    have t3 : Tk x o la lb m C M C2 M3 A (B ++ opz R) [] := Tk.tr (o2 := o + 1) (by omega) tk1 a3.2.2.1 (by show lb + 0 ≤ 1600; omega)
    have t4 : Tk x o la lb m C M C4 M4 A (B ++ opz R) [] := (t3.cl f1).sm ((((Sm.rf.u0 (j := 57) (by omega) _).u0 (j := 58) (by omega) _).uo (Or.inl rfl) _).tr f2.sm)
    refine ⟨C4, M4, J4, tkY ga d e1, ?_⟩
    rcases f4 with ⟨p4, q4, k4, v4, w4, g4, z1, z2, _⟩ | ⟨bd, _⟩
    · refine Or.inl ⟨l3.1 rfl g4.m8, A, B ++ opz R, p4, q4, k4, v4, w4, ⟨g4, rj2.tr f3, t4, ?_, ?_, ?_, ?_⟩, by omega, by rw [List.length_append, opz_l]; omega, hE⟩
      · rw [f2 _ _ (fun _ => by omega), u2_c (by omega), u2_p (by omega), u2_s]; exact e57
      · rw [f2 _ _ (fun _ => by omega), u2_c (by omega), u2_s]; exact e58
      · rw [f2 _ _ (fun z => by omega), u2_s]; rfl
      · rw [f2 _ _ (fun _ => by omega), u2_c (by omega), u2_p (by omega), u2_p (by omega), j1f _ _ (by omega) (by omega) (by omega)]; exact a.2.2.2.2.2.2
    · exact Or.inr ⟨l3.2 (Or.inr bd.m8), t4.bdx (rj2.tr f3) bd (by omega)⟩
  · have m4 := m3.trans (m_cln ga (fk := 5) (Or.inr (Or.inr (Or.inl rfl))) (fun y => absurd y (by decide)) (fun _ => z) (fun y => absurd y (by decide)))
    have l3 := Lp_go (e := e) a.2.2.2.2.2.2 m4
    have t3 : Tk x o la lb m C M C2 M2 A B ([] ++ R.reverse) := Tk.tr (o2 := o + 1) (by omega) tk1 a.2.2.1 (by show lb + 0 ≤ 1600; omega)
    refine ⟨Fc C2 1 p2, Fmm M2 1 p2, J2, tkN ga (by decide) z d, Or.inr ⟨l3.2 (Or.inl rfl), ((t3.cl (Fc_f C2 1 p2)).sm (Fmm_f M2 1 p2).sm).bdx rj2 (ga.fl (by omega) (by omega)) (by omega)⟩⟩
end LFC
