/-! LAWS: and, or (printed by genlaw5.py) -/
def NBb (k v : Nat) : Prop := ¬ (k = 3 ∧ v = 22)

section LTS
variable {T : Nat → Nat} {n p q k v o h la lb m fk ph op bs r i : Nat} {w : List Nat} {x : Bool} {C M C' M' C1 M1 C2 M2 : tI} {J J' J1 J2 Jc : tJ} {A B A2 B2 : List (Nat × Int)} {R R2 Q : List Nat} {e : Nat} {p1 q1 k1 v1 : Nat} {w1 : List Nat}
theorem Acc.gA (a : Acc T n x o la lb m C M J C' M' J' A B R p q 3 22 w 1 ph) (h1 : 1 ≤ ph) (h2 : ph ≤ 2) {ph0 : Nat} (b : Fr x o fk ph0 bs la lb m C M) (hfk : fk = 1 ∨ fk = 5) (ho : o ≤ 9) (hs : Stq M bs m 2) (hR : Pn 2 R) (h5 : m + R.length ≤ 500) (h5' : m < 500) (hB : lb + B.length + R.length ≤ 1600) (hA : la + A.length ≤ 1600) (d : Nat) : ∃ C2 M2 J2, am_G (am_ev (d + 2)) 76 [.ref 1] (C', Jc, (tc_R x), tc_S, 289, 11479) = some (none, (C2, Jc, (tc_R x), tc_S, 289, 11479)) ∧ ((Lp e M' J' = Lp e M2 J2 ∧ M2 41 o = 1 ∧ ∃ p2 q2 k2 v2 w2, p < p2 ∧ Acc T n x o la lb m C M J C2 M2 J2 A (B ++ opz R) [20] p2 q2 k2 v2 w2 0 0) ∨ (Lp e M' J' = some (none, (M2, J2, tm_R, tm_S, 77, 21637)) ∧ BdX x C M J C2 M2 J2)) := by
  have f := a.fr b
  obtain ⟨M2, M3, C4, M4, J4, j1, g2, j2, c1, j3, f2, f41, fin⟩ := a.step (e := e) b ho (r := 2) (by omega) hs hR h5 h5' hB (by omega) (by omega) hA 20 (fun M => am_u2 (am_u2 M 40 o 0) 41 o 1) (ph2 := 0) (fun M3 h => ⟨(Sm.rf.uo (Or.inl rfl) 0).uo (Or.inr rfl) 1, fun _ => by rw [u2_c (by omega), u2_c (by omega)], fun _ => by rw [u2_c (by omega), u2_c (by omega)], by rw [u2_c (by omega), u2_s]; rfl⟩) (Jc := Jc) d
  have h0 : ¬ M' 40 o = 0 := by rw [a.2.2.2.2.2.1]; exact nI_nz h1 (by omega)
  have m1 : am_G (am_ev (e + 5)) 181 [.ref 0] (M', J', tm_R, tm_S, 77, 21637) = some (some (.int 1), (am_u2 M4 0 61 0, J4, tm_R, tm_S, 77, 21637)) := by
    obtain ⟨s, t1, t2⟩ := m_go175 (e := e) a.1 a.2.2.2.1 ho a.2.2.2.2.2.1 h2 (fun _ => by omega)
    rcases t2 with ⟨rfl, _⟩ | ⟨rfl, z1, z2⟩
    · rw [t1, m_go272 a.1 ho _ _ (Or.inr (Or.inl h0))]
      exact m_goA a.1 ho h0 _ j1 j2 j3
    · exact absurd (fk15 f.2.2.2.1 hfk) (fun z => z.elim z1 z2)
  have l1 := Lp_go (e := e) (J := J') a.2.2.2.2.2.2 m1
  have e8 : am_u2 M4 0 61 0 0 8 = M4 0 8 := u2_p (by omega)
  refine ⟨C4, am_u2 M4 0 61 0, J4, c1, ?_⟩
  rcases fin with ⟨p2, q2, k2, v2, w2, z1, _, a4, h8⟩ | ⟨h8, bx⟩
  · exact Or.inl ⟨l1.1 rfl (e8.trans h8), by rw [u2_c (by omega), f2 _ _ (fun z => by omega), u2_s], p2, q2, k2, v2, w2, z1, a4⟩
  · exact Or.inr ⟨l1.2 (Or.inr (by rw [e8]; exact h8)), bx⟩
theorem Acc.gO (a : Acc T n x o la lb m C M J C' M' J' A B R p q 3 21 w 1 ph) (h1 : 1 ≤ ph) (h2 : ph ≤ 2) {ph0 : Nat} (b : Fr x o fk ph0 bs la lb m C M) (hfk : fk = 1 ∨ fk = 5) (ho : o ≤ 9) (hs : Stq M bs m 1) (hR : Pn 1 R) (h5 : m + R.length ≤ 500) (h5' : m < 500) (hB : lb + B.length + R.length ≤ 1600) (hA : la + A.length ≤ 1600) (d : Nat) : ∃ C2 M2 J2, am_G (am_ev (d + 2)) 76 [.ref 1] (C', Jc, (tc_R x), tc_S, 289, 11479) = some (none, (C2, Jc, (tc_R x), tc_S, 289, 11479)) ∧ ((Lp e M' J' = Lp e M2 J2 ∧ M2 41 o = 1 ∧ ∃ p2 q2 k2 v2 w2, p < p2 ∧ Acc T n x o la lb m C M J C2 M2 J2 A (B ++ opz R) [21] p2 q2 k2 v2 w2 0 0) ∨ (Lp e M' J' = some (none, (M2, J2, tm_R, tm_S, 77, 21637)) ∧ BdX x C M J C2 M2 J2)) := by
  have f := a.fr b
  obtain ⟨M2, M3, C4, M4, J4, j1, g2, j2, c1, j3, f2, f41, fin⟩ := a.step (e := e) b ho (r := 1) (by omega) hs hR h5 h5' hB (by omega) (by omega) hA 21 (fun M => am_u2 (am_u2 M 40 o 0) 41 o 1) (ph2 := 0) (fun M3 h => ⟨(Sm.rf.uo (Or.inl rfl) 0).uo (Or.inr rfl) 1, fun _ => by rw [u2_c (by omega), u2_c (by omega)], fun _ => by rw [u2_c (by omega), u2_c (by omega)], by rw [u2_c (by omega), u2_s]; rfl⟩) (Jc := Jc) d
  have h0 : ¬ M' 40 o = 0 := by rw [a.2.2.2.2.2.1]; exact nI_nz h1 (by omega)
  have m1 : am_G (am_ev (e + 5)) 181 [.ref 0] (M', J', tm_R, tm_S, 77, 21637) = some (some (.int 1), (am_u2 M4 0 61 0, J4, tm_R, tm_S, 77, 21637)) := by
    obtain ⟨s, t1, t2⟩ := m_go175 (e := e) a.1 a.2.2.2.1 ho a.2.2.2.2.2.1 h2 (fun _ => by omega)
    rcases t2 with ⟨rfl, _⟩ | ⟨rfl, z1, z2⟩
    · rw [t1, m_go272 a.1 ho _ _ (Or.inr (Or.inl h0))]
      exact m_goO a.1 ho h0 _ j1 j2 j3
    · exact absurd (fk15 f.2.2.2.1 hfk) (fun z => z.elim z1 z2)
  have l1 := Lp_go (e := e) (J := J') a.2.2.2.2.2.2 m1
  have e8 : am_u2 M4 0 61 0 0 8 = M4 0 8 := u2_p (by omega)
  refine ⟨C4, am_u2 M4 0 61 0, J4, c1, ?_⟩
  rcases fin with ⟨p2, q2, k2, v2, w2, z1, _, a4, h8⟩ | ⟨h8, bx⟩
  · exact Or.inl ⟨l1.1 rfl (e8.trans h8), by rw [u2_c (by omega), f2 _ _ (fun z => by omega), u2_s], p2, q2, k2, v2, w2, z1, a4⟩
  · exact Or.inr ⟨l1.2 (Or.inr (by rw [e8]; exact h8)), bx⟩
theorem bth_loop (F : TsP T n x Jc o h 98 8 3 (3 * h + 4) 12 NA) (ho : o + h = 8) (b : Fr x o fk 0 bs la lb m C M) (hs : Stq M bs m 2) (hla : la ≤ p) (hlb : lb ≤ p) (hm : 4 * m ≤ p + 24 * o + 8) (hfk : fk = 1 ∨ fk = 5) (d e : Nat) : ∀ fu (C' M' : tI) (J' : tJ) (A B : List (Nat × Int)) (R : List Nat) (p' q' k' v' : Nat) (w' : List Nat) (ph' c : Nat), 1600 - p' ≤ fu → Acc T n x o la lb m C M J C' M' J' A B R p' q' k' v' w' 1 ph' → 1 ≤ ph' → ph' ≤ 2 → (ph' ≤ 1 → N5 k' v') → p + A.length ≤ p' → p + B.length + R.length ≤ p' → p < p' → c ≤ p' → Pn 2 R → 4 * (m + R.length) ≤ p' + 24 * o + 28 → EqB (3 * h + 5) A (B ++ opz R) → NA k' v' → Out e x C M J Jc (am_ev (d + 4 * h + 9) 97 7 [.ref 1, .int (nI o), .int (nI c)] [] (C', Jc, (tc_R x), tc_S, 289, 11479)) (Lp e M' J') (Tr T n x o la lb m p 2 (3 * h + 5) NBb C M J) := by
  intro fu
  induction fu with
  | zero =>
    intro C' M' J' A B R p' q' k' v' w' ph' c hfu a h1 h2 h3 lA lB lp hc hR hR2 hE hN
    have hk : k' = 1 := by
      rcases Nat.decEq k' 1 with z | z
      · have := a.1.pq z; omega
      · exact z
    subst hk
    have z : ¬ (1 = 3 ∧ v' = 22) := by omega
    refine ⟨C', M', J', ?_, Or.inl ⟨rfl, A, B, R, p', q', 1, v', w', ph', a, h1, h2, h3, lA, lB, lp, hR, hR2, hE, z⟩⟩
    rw [b97_7]
    split
    · rfl
    · rw [a.1.cwN (c := 22) 22 rfl (by omega) z, am_call_s, am_toL, b97_21, if_pos rfl]
  | succ fu ih =>
    intro C' M' J' A B R p' q' k' v' w' ph' c hfu a h1 h2 h3 lA lB lp hc hR hR2 hE hN
    by_cases z : k' = 3 ∧ v' = 22
    · obtain ⟨rfl, rfl⟩ := z
      have hpq := a.1.pq (by omega)
      obtain ⟨C2, M2, J2, c1, fin⟩ := a.gA (e := e) (Jc := Jc) h1 h2 b hfk (by omega) hs hR (by omega) (by omega) (by omega) (by omega) (d + 4 * h + 6)
      have c28 : am_ev (d + 4 * h + 9) 97 7 [.ref 1, .int (nI o), .int (nI c)] [] (C', Jc, (tc_R x), tc_S, 289, 11479) = am_ev (d + 4 * h + 9) 97 28 [.ref 1, .int (nI o), .int (nI c)] [] (C2, Jc, (tc_R x), tc_S, 289, 11479) := by
        rw [b97_7, if_neg (geL (c := 1600) 1600 rfl (by omega) (by omega)), a.1.cwY (c := 22) rfl, am_call_s, am_toL, b97_21, if_neg (by decide : ¬ (1 : Int32) = 0), c1, am_call_s, am_toN]
      rw [c28]
      rcases fin with ⟨l1, y41, p2, q2, k2, v2, w2, z1, a2⟩ | ⟨l1, bx⟩
      · have fr2 := a2.fr b
        have lo : (B ++ opz R).length = B.length + R.length := by rw [List.length_append, opz_l]
        obtain ⟨C3, M3, J3, c3, hh⟩ := F fk bs _ _ _ p2 q2 k2 v2 w2 C2 M2 J2 d e a2.1 fr2 a2.2.2.2.2.2.2 y41 (by omega) (by rw [lo]; omega) (by show 4 * (m + 1) ≤ _; omega) hfk ⟨by have := hs.1; show bs ≤ m + 1; omega, Or.inr ⟨20, tp0 a2.2.2.1, by omega, by omega, by decide, by have := hs.1; show bs < m + 1; omega⟩⟩
        rcases hh with ⟨l2, A2, B2, R2, p3, q3, k3, v3, w3, ph3, a3, g1, g2, g3, lA3, lB3, lp3, hR3, hl2, hE3, hN3⟩ | ⟨l2, bx⟩
        · have a4 := a2.tr a3 (by rw [lo]; omega)
          have pn3 := a3.1.pn
          have lA4 : (A ++ A2).length = A.length + A2.length := List.length_append
          have c4 := a4.emC (Jc := Jc) (by rw [lA4]; omega) (20, 0) (d + 4 * h + 7)
          have ec : (-23 : Int32) = l_cc (20, 0) := by decide
          have hE5 := (hE.op hE3 (c := 20) (by omega)).mono (t := 3 * h + 5) (by omega)
          have eV : B ++ opz R ++ (B2 ++ opz R2) ++ [(20, (0 : Int))] = (B ++ opz R ++ B2) ++ opz (R2 ++ [20]) := by simp [opz, List.map_append]
          rw [eV] at hE5
          have key : am_ev (d + 4 * h + 9) 97 28 [.ref 1, .int (nI o), .int (nI c)] [] (C2, Jc, (tc_R x), tc_S, 289, 11479) = am_ev (d + 4 * h + 9) 97 7 [.ref 1, .int (nI o), .int (nI (c + 1))] [] (am_u2 (am_u2 C3 (tc_P (!x) + 34) (la + (A ++ A2).length) (l_cc (20, 0))) (tc_P (!x) + 33) 2 (nI (la + (A ++ A2).length + 1)), Jc, (tc_R x), tc_S, 289, 11479) := by
            rw [b97_28, c3, am_call_s, am_toN, b97_33, ec, c4, am_call_s, am_toN, b97_45, nI_1]
          rw [key, l1, l2]
          refine ih _ M3 J3 _ _ _ p3 q3 k3 v3 w3 ph3 (c + 1) (by omega) (a4.em (20, 0)) g1 g2 g3 (by rw [List.length_append, lA4]; show p + (A.length + A2.length + 1) ≤ p3; omega) ?_ (by omega) (by omega) ((hR3.mono (by omega)).app (fun c hc => by rw [List.mem_singleton.mp hc]; decide)) (by rw [List.length_append]; show 4 * (m + (R2.length + 1)) ≤ _; have : 4 * (m + 1 + R2.length) ≤ p3 + 24 * o + 28 := hl2; omega) hE5 hN3
          rw [List.length_append, lo, List.length_append]
          show p + (B.length + R.length + B2.length) + (R2.length + 1) ≤ p3
          omega
        · obtain ⟨C4, d1, d2, d3⟩ := bx.2.2.2.em (Jc := Jc) (-23) (d + 4 * h + 7)
          refine ⟨C4, M3, J3, ?_, Or.inr ⟨l1.trans l2, BdX.of a2.2.2.1.rc a2.2.2.1.rm a2.2.1 (bx.cl d2 d3)⟩⟩
          rw [b97_28, c3, am_call_s, am_toN, b97_33, d1, am_call_s, am_toN, b97_45]
          exact d3.bo7 (nI o) (nI c + 1) (d + 4 * h + 2)
      · obtain ⟨C4, d1, d2, d3⟩ := bx.2.2.2.bo28 (Jc := Jc) (nI o) (nI c) (d + 4 * h + 2)
        exact ⟨C4, M2, J2, d1, Or.inr ⟨l1, bx.cl d2 d3⟩⟩
    · refine ⟨C', M', J', ?_, Or.inl ⟨rfl, A, B, R, p', q', k', v', w', ph', a, h1, h2, h3, lA, lB, lp, hR, hR2, hE, z⟩⟩
      rw [b97_7]
      split
      · rfl
      · rw [a.1.cwN (c := 22) 22 rfl (by omega) z, am_call_s, am_toL, b97_21, if_pos rfl]
theorem bth_all (F : TsP T n x Jc o h 98 8 3 (3 * h + 4) 12 NA) (ho : o + h = 8) : TsP T n x Jc o h 97 9 2 (3 * h + 5) 8 NBb := by
  intro fk bs la lb m p q k v w C M J d e g b h61 h41 hla hlb hm hfk hs
  obtain ⟨C2, M2, J2, c1, hh⟩ := F fk bs la lb m p q k v w C M J d e g b h61 h41 hla hlb (by omega) hfk (hs.mono (by omega))
  rcases hh with ⟨l1, A, B, R, p2, q2, k2, v2, w2, ph', a, h1, h2, h3, lA, lB, lp, hR, hl2, hE, hN⟩ | ⟨l1, bx⟩
  · obtain ⟨C3, M3, J3, c3, hh⟩ := bth_loop F ho b hs hla hlb hm hfk d e 1600 C2 M2 J2 A B R p2 q2 k2 v2 w2 ph' 0 (by omega) a h1 h2 h3 lA lB lp (by omega) (hR.mono (by omega)) hl2 (hE.mono (by omega)) hN
    refine ⟨C3, M3, J3, ?_, by rw [l1]; exact hh⟩
    rw [b97_0, c1, am_call_s, am_toN, b97_5]
    exact c3
  · refine ⟨C2, M2, J2, ?_, Or.inr ⟨l1, bx⟩⟩
    rw [b97_0, c1, am_call_s, am_toN, b97_5]
    exact bx.2.2.2.bo7 (nI o) 0 (d + 4 * h + 2)
theorem tst_loop (F : TsP T n x Jc o h 97 9 2 (3 * h + 5) 8 NBb) (ho : o + h = 8) (b : Fr x o fk 0 bs la lb m C M) (hs : Stq M bs m 1) (hla : la ≤ p) (hlb : lb ≤ p) (hm : 4 * m ≤ p + 24 * o + 4) (hfk : fk = 1 ∨ fk = 5) (d e : Nat) : ∀ fu (C' M' : tI) (J' : tJ) (A B : List (Nat × Int)) (R : List Nat) (p' q' k' v' : Nat) (w' : List Nat) (ph' c : Nat), 1600 - p' ≤ fu → Acc T n x o la lb m C M J C' M' J' A B R p' q' k' v' w' 1 ph' → 1 ≤ ph' → ph' ≤ 2 → (ph' ≤ 1 → N5 k' v') → p + A.length ≤ p' → p + B.length + R.length ≤ p' → p < p' → c ≤ p' → Pn 1 R → 4 * (m + R.length) ≤ p' + 24 * o + 28 → EqB (3 * h + 6) A (B ++ opz R) → NBb k' v' → Out e x C M J Jc (am_ev (d + 4 * h + 10) 96 7 [.ref 1, .int (nI o), .int (nI c)] [] (C', Jc, (tc_R x), tc_S, 289, 11479)) (Lp e M' J') (Tr T n x o la lb m p 1 (3 * h + 6) NT C M J) := by
  intro fu
  induction fu with
  | zero =>
    intro C' M' J' A B R p' q' k' v' w' ph' c hfu a h1 h2 h3 lA lB lp hc hR hR2 hE hN
    have hk : k' = 1 := by
      rcases Nat.decEq k' 1 with z | z
      · have := a.1.pq z; omega
      · exact z
    subst hk
    have z : ¬ (1 = 3 ∧ v' = 21) := by omega
    refine ⟨C', M', J', ?_, Or.inl ⟨rfl, A, B, R, p', q', 1, v', w', ph', a, h1, h2, h3, lA, lB, lp, hR, hR2, hE, ⟨hN, z⟩⟩⟩
    rw [b96_7]
    split
    · rfl
    · rw [a.1.cwN (c := 21) 21 rfl (by omega) z, am_call_s, am_toL, b96_21, if_pos rfl]
  | succ fu ih =>
    intro C' M' J' A B R p' q' k' v' w' ph' c hfu a h1 h2 h3 lA lB lp hc hR hR2 hE hN
    by_cases z : k' = 3 ∧ v' = 21
    · obtain ⟨rfl, rfl⟩ := z
      have hpq := a.1.pq (by omega)
      obtain ⟨C2, M2, J2, c1, fin⟩ := a.gO (e := e) (Jc := Jc) h1 h2 b hfk (by omega) hs hR (by omega) (by omega) (by omega) (by omega) (d + 4 * h + 7)
      have c28 : am_ev (d + 4 * h + 10) 96 7 [.ref 1, .int (nI o), .int (nI c)] [] (C', Jc, (tc_R x), tc_S, 289, 11479) = am_ev (d + 4 * h + 10) 96 28 [.ref 1, .int (nI o), .int (nI c)] [] (C2, Jc, (tc_R x), tc_S, 289, 11479) := by
        rw [b96_7, if_neg (geL (c := 1600) 1600 rfl (by omega) (by omega)), a.1.cwY (c := 21) rfl, am_call_s, am_toL, b96_21, if_neg (by decide : ¬ (1 : Int32) = 0), c1, am_call_s, am_toN]
      rw [c28]
      rcases fin with ⟨l1, y41, p2, q2, k2, v2, w2, z1, a2⟩ | ⟨l1, bx⟩
      · have fr2 := a2.fr b
        have lo : (B ++ opz R).length = B.length + R.length := by rw [List.length_append, opz_l]
        obtain ⟨C3, M3, J3, c3, hh⟩ := F fk bs _ _ _ p2 q2 k2 v2 w2 C2 M2 J2 d e a2.1 fr2 a2.2.2.2.2.2.2 y41 (by omega) (by rw [lo]; omega) (by show 4 * (m + 1) ≤ _; omega) hfk ⟨by have := hs.1; show bs ≤ m + 1; omega, Or.inr ⟨21, tp0 a2.2.2.1, by omega, by omega, by decide, by have := hs.1; show bs < m + 1; omega⟩⟩
        rcases hh with ⟨l2, A2, B2, R2, p3, q3, k3, v3, w3, ph3, a3, g1, g2, g3, lA3, lB3, lp3, hR3, hl2, hE3, hN3⟩ | ⟨l2, bx⟩
        · have a4 := a2.tr a3 (by rw [lo]; omega)
          have pn3 := a3.1.pn
          have lA4 : (A ++ A2).length = A.length + A2.length := List.length_append
          have c4 := a4.emC (Jc := Jc) (by rw [lA4]; omega) (21, 0) (d + 4 * h + 8)
          have ec : (-22 : Int32) = l_cc (21, 0) := by decide
          have hE5 := (hE.op hE3 (c := 21) (by omega)).mono (t := 3 * h + 6) (by omega)
          have eV : B ++ opz R ++ (B2 ++ opz R2) ++ [(21, (0 : Int))] = (B ++ opz R ++ B2) ++ opz (R2 ++ [21]) := by simp [opz, List.map_append]
          rw [eV] at hE5
          have key : am_ev (d + 4 * h + 10) 96 28 [.ref 1, .int (nI o), .int (nI c)] [] (C2, Jc, (tc_R x), tc_S, 289, 11479) = am_ev (d + 4 * h + 10) 96 7 [.ref 1, .int (nI o), .int (nI (c + 1))] [] (am_u2 (am_u2 C3 (tc_P (!x) + 34) (la + (A ++ A2).length) (l_cc (21, 0))) (tc_P (!x) + 33) 2 (nI (la + (A ++ A2).length + 1)), Jc, (tc_R x), tc_S, 289, 11479) := by
            rw [b96_28, c3, am_call_s, am_toN, b96_33, ec, c4, am_call_s, am_toN, b96_45, nI_1]
          rw [key, l1, l2]
          refine ih _ M3 J3 _ _ _ p3 q3 k3 v3 w3 ph3 (c + 1) (by omega) (a4.em (21, 0)) g1 g2 g3 (by rw [List.length_append, lA4]; show p + (A.length + A2.length + 1) ≤ p3; omega) ?_ (by omega) (by omega) ((hR3.mono (by omega)).app (fun c hc => by rw [List.mem_singleton.mp hc]; decide)) (by rw [List.length_append]; show 4 * (m + (R2.length + 1)) ≤ _; have : 4 * (m + 1 + R2.length) ≤ p3 + 24 * o + 28 := hl2; omega) hE5 hN3
          rw [List.length_append, lo, List.length_append]
          show p + (B.length + R.length + B2.length) + (R2.length + 1) ≤ p3
          omega
        · obtain ⟨C4, d1, d2, d3⟩ := bx.2.2.2.em (Jc := Jc) (-22) (d + 4 * h + 8)
          refine ⟨C4, M3, J3, ?_, Or.inr ⟨l1.trans l2, BdX.of a2.2.2.1.rc a2.2.2.1.rm a2.2.1 (bx.cl d2 d3)⟩⟩
          rw [b96_28, c3, am_call_s, am_toN, b96_33, d1, am_call_s, am_toN, b96_45]
          exact d3.te7 (nI o) (nI c + 1) (d + 4 * h + 2)
      · obtain ⟨C4, d1, d2, d3⟩ := bx.2.2.2.te28 (Jc := Jc) (nI o) (nI c) (d + 4 * h + 2)
        exact ⟨C4, M2, J2, d1, Or.inr ⟨l1, bx.cl d2 d3⟩⟩
    · refine ⟨C', M', J', ?_, Or.inl ⟨rfl, A, B, R, p', q', k', v', w', ph', a, h1, h2, h3, lA, lB, lp, hR, hR2, hE, ⟨hN, z⟩⟩⟩
      rw [b96_7]
      split
      · rfl
      · rw [a.1.cwN (c := 21) 21 rfl (by omega) z, am_call_s, am_toL, b96_21, if_pos rfl]
theorem tst_all (F : TsP T n x Jc o h 97 9 2 (3 * h + 5) 8 NBb) (ho : o + h = 8) : TsP T n x Jc o h 96 10 1 (3 * h + 6) 4 NT := by
  intro fk bs la lb m p q k v w C M J d e g b h61 h41 hla hlb hm hfk hs
  obtain ⟨C2, M2, J2, c1, hh⟩ := F fk bs la lb m p q k v w C M J d e g b h61 h41 hla hlb (by omega) hfk (hs.mono (by omega))
  rcases hh with ⟨l1, A, B, R, p2, q2, k2, v2, w2, ph', a, h1, h2, h3, lA, lB, lp, hR, hl2, hE, hN⟩ | ⟨l1, bx⟩
  · obtain ⟨C3, M3, J3, c3, hh⟩ := tst_loop F ho b hs hla hlb hm hfk d e 1600 C2 M2 J2 A B R p2 q2 k2 v2 w2 ph' 0 (by omega) a h1 h2 h3 lA lB lp (by omega) (hR.mono (by omega)) hl2 (hE.mono (by omega)) hN
    refine ⟨C3, M3, J3, ?_, by rw [l1]; exact hh⟩
    rw [b96_0, c1, am_call_s, am_toN, b96_5]
    exact c3
  · refine ⟨C2, M2, J2, ?_, Or.inr ⟨l1, bx⟩⟩
    rw [b96_0, c1, am_call_s, am_toN, b96_5]
    exact bx.2.2.2.te7 (nI o) 0 (d + 4 * h + 2)
theorem tests : ∀ h o, o + h = 8 → TsP T n x Jc o h 96 10 1 (3 * h + 6) 4 NT := by
  intro h
  induction h with
  | zero => exact fun o ho => tst_all (bth_all (fct_all (fun h' z => by omega) ho) ho) ho
  | succ h ih => exact fun o ho => tst_all (bth_all (fct_all (fun h' z => by
      obtain rfl : h' = h := by omega
      exact ih (o + 1) (by omega)) ho) ho) ho
end LTS
