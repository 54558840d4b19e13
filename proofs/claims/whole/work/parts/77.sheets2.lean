/-! sheets, the call -/
section SH2
variable {x : Bool} {C M : tI} {J Jc : tJ}
/-- both read the parts -/
theorem Rl.prt : ∀ (k i n : Nat) (C M : tI) (v3 : Value), Rl x C M J → i + k = n → n ≤ 12 → (∀ j, j < i → ∃ q, q < Int32.toNatClampNeg (M 6 (xb x)) ∧ M 1 j = nI q ∧ C 281 j = M 10 (8 * xb x + q)) → ((∃ C', am_ev 100 139 40 [.ref 0, .int (nI n), .int (nI i), v3] [] (C, Jc, (tc_R x), tc_S, 289, 11479) = some (some (.int (-1)), ((am_u2 C' 288 5 (C' 288 5 + 1)), Jc, (tc_R x), tc_S, 289, 11479)) ∧ (∀ a b, a ≠ 281 → C' a b = C a b)) ∧ am_ev 99 259 14 [.ref 0, .int (nI n), .int (nI i)] [] (M, J, tm_R, tm_S, 77, 21637) = some (some (.int 0), (M, J, tm_R, tm_S, 77, 21637))) ∨ ((∃ C' w3, am_ev 100 139 40 [.ref 0, .int (nI n), .int (nI i), v3] [] (C, Jc, (tc_R x), tc_S, 289, 11479) = am_ev 100 139 40 [.ref 0, .int (nI n), .int (nI n), w3] [] (C', Jc, (tc_R x), tc_S, 289, 11479) ∧ (∀ a b, a ≠ 281 → C' a b = C a b) ∧ ∀ j, j < n → ∃ q, q < Int32.toNatClampNeg (M 6 (xb x)) ∧ M 1 j = nI q ∧ C' 281 j = M 10 (8 * xb x + q)) ∧ am_ev 99 259 14 [.ref 0, .int (nI n), .int (nI i)] [] (M, J, tm_R, tm_S, 77, 21637) = some (some (.int 1), (M, J, tm_R, tm_S, 77, 21637))) := by
  intro k
  induction k with
  | zero =>
    intro i n C M v3 h hi h12 hp
    obtain rfl : i = n := by omega
    exact Or.inr ⟨⟨C, v3, rfl, fun _ _ _ => rfl, hp⟩, by rw [b259_14, if_pos (Int32.le_refl _)]⟩
  | succ k ih =>
    intro i n C M v3 h hi h12 hp
    have hx := tc_P4 x
    have ci : (nI i).toNatClampNeg = i := nI_clamp (by omega)
    have t3 := h.T.2.2 i (by omega)
    have b6 := h.Pc.2.1.2.cl (by omega)
    have sC := b139_40 99 C Jc x (nI n) (nI i) v3
    rw [if_neg (nI_ge (by omega) (by omega)), if_pos (nI_in (by omega) (by omega))] at sC
    simp only [ci] at sC
    have sM := b259_14 98 M J (nI n) (nI i)
    rw [if_neg (nI_ge (by omega) (by omega)), if_pos (nI_in (by omega) (by omega))] at sM
    simp only [ci] at sM
    rw [t3.1] at sC
    rcases h.kind (Jc := Jc) (q := 1) (by omega) (M 1 i) 98 96 with ⟨e1, e2⟩ | ⟨q, hq, eq, q8, e1, e2⟩
    · have e1 : am_G (am_ev 99) 56 [.ref (tc_P x), .int 1, .int (M 1 i)] (C, Jc, (tc_R x), tc_S, 289, 11479) = some (some (.int 0), (C, Jc, (tc_R x), tc_S, 289, 11479)) := e1
      have e2 : am_G (am_ev 98) 210 [.ref 0, .int 1, .int (M 1 i)] (M, J, tm_R, tm_S, 77, 21637) = some (some (.int 0), (M, J, tm_R, tm_S, 77, 21637)) := e2
      rw [e1, am_call_s, am_toL, b139_67, if_pos rfl, crk _ _ _ _ 5 5 rfl (by omega), am_call_s, am_toL, b139_75] at sC
      rw [e2, am_call_s, am_toL, b259_30, if_pos rfl] at sM
      exact Or.inl ⟨⟨C, sC, fun _ _ _ => rfl⟩, sM⟩
    · have e1 : am_G (am_ev 99) 56 [.ref (tc_P x), .int 1, .int (M 1 i)] (C, Jc, (tc_R x), tc_S, 289, 11479) = some (some (.int 1), (C, Jc, (tc_R x), tc_S, 289, 11479)) := e1
      have e2 : am_G (am_ev 98) 210 [.ref 0, .int 1, .int (M 1 i)] (M, J, tm_R, tm_S, 77, 21637) = some (some (.int 1), (M, J, tm_R, tm_S, 77, 21637)) := e2
      have hq : q < Int32.toNatClampNeg (M 6 (xb x)) := hq
      have q8 : q < 8 := q8
      have cq : (nI q).toNatClampNeg = q := nI_clamp (by omega)
      rw [e1, am_call_s, am_toL, b139_67, if_neg (by decide : ¬ (1 : Int32) = 0), eq, if_pos (nI_in q8 (by omega)), if_pos (nI_in (by omega) (by omega)), nI_1] at sC
      simp only [cq, ci] at sC
      rw [e2, am_call_s, am_toL, b259_30, if_neg (by decide : ¬ (1 : Int32) = 0), nI_1] at sM
      have pp := h.P.2.2.2.1 q hq
      rw [pp.2.2.1] at sC
      have h' : Rl x (am_u2 C 281 i (M 10 (8 * xb x + q))) M J := h.scr (fun a b z => u2_c (by omega)) (fun _ _ _ => rfl) (fun _ _ _ => rfl)
      rcases ih (i + 1) n (am_u2 C 281 i (M 10 (8 * xb x + q))) M (.int (nI q)) h' (by omega) h12 (fun j hj => by
        by_cases z : j = i
        · subst z; exact ⟨q, hq, eq, by rw [u2_s]⟩
        · rw [u2_p z]; exact hp j (by omega)) with ⟨⟨C', y1, y2⟩, y3⟩ | ⟨⟨C', w3, y1, y2, y4⟩, y3⟩
      · exact Or.inl ⟨⟨C', sC.trans y1, fun a b z => by rw [y2 a b z, u2_c z]⟩, sM.trans y3⟩
      · exact Or.inr ⟨⟨C', w3, sC.trans y1, fun a b z => by rw [y2 a b z, u2_c z], y4⟩, sM.trans y3⟩
theorem c_all (d : Nat) (C : tI) (J : tJ) (x : Bool) {W : Nat → Nat} {n : Nat} (n12 : n ≤ 12) (hw : ∀ j, j < n → C 281 j = nI (W j)) : am_G (am_ev (d + 1)) 50 [.ref 280, .int (nI n)] (C, J, (tc_R x), tc_S, 289, 11479) = some (some (.int (nI (nsm W n))), (C, J, (tc_R x), tc_S, 289, 11479)) := by
  have run : ∀ k, k ≤ n → am_ev (d + 1) 50 4 [.ref 280, .int (nI n), .int (nI 0), .int (nI 0)] [] (C, J, (tc_R x), tc_S, 289, 11479) = am_ev (d + 1) 50 4 [.ref 280, .int (nI n), .int (nI (nsm W k)), .int (nI k)] [] (C, J, (tc_R x), tc_S, 289, 11479) := by
    intro k
    induction k with
    | zero => intro _; rfl
    | succ k ih =>
      intro hk
      have ck : (nI k).toNatClampNeg = k := nI_clamp (by omega)
      rw [ih (by omega), b50_4, if_neg (nI_ge (by omega) (by omega)), if_pos (nI_in (by omega) (by omega))]
      simp only [ck]
      rw [hw k (by omega), nI_add, nI_1, nsm_s]
  rw [b50_0]
  refine Eq.trans (run n (Nat.le_refl _)) ?_
  rw [b50_4, if_pos (Int32.le_refl _)]
/-- the model's widths -/
theorem m_wid {W p : Nat → Nat} {n sp sh b : Nat} {M : tI} (r : pmR M W p n sp sh b) (n12 : n ≤ 12) (s4 : sh ≤ 400) (w9 : ∀ j, W j ≤ 99) (v4 v5 v6 : Value) : ∀ k i, i + k = n → (∀ j, j < i → W j ≤ sh) → ((∃ j, j < n ∧ sh < W j) ∧ am_ev 100 260 33 [.ref 0, .int (nI n), .int (nI (nsm W i)), .int (nI i), v4, v5, v6] [] (M, J, tm_R, tm_S, 77, 21637) = some (some (.int (-1)), (M, J, tm_R, tm_S, 77, 21637))) ∨ ((∀ j, j < n → W j ≤ sh) ∧ am_ev 100 260 33 [.ref 0, .int (nI n), .int (nI (nsm W i)), .int (nI i), v4, v5, v6] [] (M, J, tm_R, tm_S, 77, 21637) = am_ev 100 260 33 [.ref 0, .int (nI n), .int (nI (nsm W n)), .int (nI n), v4, v5, v6] [] (M, J, tm_R, tm_S, 77, 21637)) := by
  obtain ⟨r1, r2, r3, r4, r5⟩ := r
  intro k
  induction k with
  | zero => intro i hi h; obtain rfl : i = n := by omega
            exact Or.inr ⟨h, rfl⟩
  | succ k ih =>
    intro i hi h
    obtain ⟨t1, t2, t3⟩ := r5 i (by omega)
    have ci : (nI i).toNatClampNeg = i := nI_clamp (by omega)
    have i8 : (8 : Int32) * M 0 12 + nI (p i) = nI (8 * b + p i) := by rw [r1]; exact nI_ix 8 b _
    have c16 : (nI (8 * b + p i)).toNatClampNeg = 8 * b + p i := nI_clamp (by omega)
    have i16 : am_in (nI (8 * b + p i)) 16 := nI_in (by omega) (by omega)
    have cb : (nI b).toNatClampNeg = b := nI_clamp (by omega)
    have i18 : am_in (nI i) 1800 := nI_in (by omega) (by omega)
    have wi := w9 i
    have st := b260_33 99 M J (nI n) (nI (nsm W i)) (nI i) v4 v5 v6
    rw [if_neg (nI_ge (by omega) (by omega)), if_pos i18] at st
    simp only [ci] at st
    rw [t1, m_part8, i8, am_call_s, am_toL, b260_52, if_pos i16, r1, if_pos (nI_in (by omega) (by omega))] at st
    simp only [c16, cb, ci] at st
    rw [t3, r3, if_pos i18, t1, m_part8, i8, am_call_s, am_toL, b260_82, if_pos i16] at st
    simp only [c16] at st
    rw [t3, nI_add, nI_1] at st
    by_cases q : W i ≤ sh
    · rw [if_pos (nI_le q (by omega))] at st
      rcases ih (i + 1) (by omega) (fun j hj => by
        by_cases z : j = i
        · subst z; exact q
        · exact h j (by omega)) with ⟨y1, y2⟩ | ⟨y1, y2⟩
      · exact Or.inl ⟨y1, st.trans y2⟩
      · exact Or.inr ⟨y1, st.trans y2⟩
    · rw [if_neg (nI_ge (by omega) (by omega))] at st
      exact Or.inl ⟨⟨i, by omega, by omega⟩, st⟩
theorem m_pack {W p : Nat → Nat} {n sp sh b : Nat} {M : tI} (r : pmR M W p n sp sh b) (n1 : 1 ≤ n) (n12 : n ≤ 12) (s4 : sh ≤ 400) (p9 : sp ≤ 9) (w9 : ∀ j, W j ≤ 99) (hW : ∀ j, j < n → W j ≤ sh) (x2 : Int32) (v4 v5 v6 : Value) : ∃ (D : tI) (c : Nat), am_ev 100 260 33 [.ref 0, .int (nI n), .int x2, .int (nI n), v4, v5, v6] [] (M, J, tm_R, tm_S, 77, 21637) = some (some (.int (nI c)), ((am_u2 D 0 91 (nI c * nI sh - x2)), J, tm_R, tm_S, 77, 21637)) ∧ (∀ a b, a ≠ 68 → a ≠ 69 → D a b = M a b) ∧ c ≤ n ∧ opt (wS W sp) n (sh + sp) (2 ^ n - 1) c := by
  obtain ⟨r1, r2, r3, r4, r5⟩ := r
  have r : pmR M W p n sp sh b := ⟨r1, r2, r3, r4, r5⟩
  have p12 : 2 ^ n ≤ 4096 := Nat.pow_le_pow_right (n := 2) (by omega) n12
  have p2 : 2 ≤ 2 ^ n := Nat.pow_le_pow_right (n := 2) (i := 1) (j := n) (by omega) n1
  have c0 : Int32.toNatClampNeg 0 = 0 := rfl
  have cb : (nI b).toNatClampNeg = b := nI_clamp (by omega)
  have i2 : am_in (nI b) 2 := nI_in (by omega) (by omega)
  have i0 : am_in (0 : Int32) 4096 := by decide
  have run : ∀ k, k + 1 ≤ 2 ^ n → ∃ (D : tI) (w4 w5 w6 : Value), am_ev 100 260 116 [.ref 0, .int (nI n), .int x2, .int (nI 1), v4, v5, v6] [] ((am_u2 (am_u2 M 69 0 0) 68 0 (-(nI sp))), J, tm_R, tm_S, 77, 21637) = am_ev 100 260 116 [.ref 0, .int (nI n), .int x2, .int (nI (k + 1)), w4, w5, w6] [] (D, J, tm_R, tm_S, 77, 21637) ∧ (∀ a b, a ≠ 68 → a ≠ 69 → D a b = M a b) ∧ (∀ T, T < k + 1 → D 68 T = nI (gS (wS W sp) T n) - nI sp) ∧ ∀ T, T < k + 1 → ∃ c, D 69 T = nI c ∧ c ≤ n ∧ opt (wS W sp) n (sh + sp) T c := by
    intro k
    induction k with
    | zero =>
      intro _
      refine ⟨_, _, _, _, rfl, fun a b z1 z2 => by rw [u2_c z1, u2_c z2], fun T hT => ?_, fun T hT => ?_⟩
      · obtain rfl : T = 0 := by omega
        rw [u2_s, gS_0]
        exact (Int32.zero_sub _).symm
      · obtain rfl : T = 0 := by omega
        exact ⟨0, by rw [u2_c (by omega), u2_s]; rfl, by omega, bk_z 0, fun k _ => Nat.zero_le k⟩
    | succ k ih =>
      intro hk
      obtain ⟨D, w4, w5, w6, a1, a2, a3, a4⟩ := ih (by omega)
      obtain ⟨E, u4, u5, u6, b1, b2, b3, b4⟩ := m_set (J := J) 98 x2 w4 w5 w6 (r.fr a2) n1 n12 s4 p9 w9 hW (S := k + 1) (by omega) (by omega) a3 a4
      refine ⟨E, u4, u5, u6, a1.trans b1, fun a b z1 z2 => by rw [b2 a b (by omega) (by omega)]; exact a2 a b z1 z2, fun T hT => ?_, fun T hT => ?_⟩
      · by_cases z : T = k + 1
        · subst z; exact b3
        · rw [b2 _ _ (by omega) (by omega)]; exact a3 T (by omega)
      · by_cases z : T = k + 1
        · subst z; exact b4
        · rw [b2 _ _ (by omega) (by omega)]; exact a4 T (by omega)
  obtain ⟨D, w4, w5, w6, a1, a2, a3, a4⟩ := run (2 ^ n - 1) (by omega)
  rw [show 2 ^ n - 1 + 1 = 2 ^ n by omega] at a1 a4
  obtain ⟨c, e1, e2, e3⟩ := a4 (2 ^ n - 1) (by omega)
  have ep : nI (2 ^ n) - 1 = nI (2 ^ n - 1) := nI_sub (b := 1) (by omega) (by omega)
  have cf : (nI (2 ^ n - 1)).toNatClampNeg = 2 ^ n - 1 := nI_clamp (by omega)
  refine ⟨D, c, ?_, a2, e2, e3⟩
  rw [b260_33, if_pos (Int32.le_refl _), if_pos i0, r1, if_pos i2, if_pos i0]
  simp only [c0, cb]
  rw [r4]
  refine Eq.trans a1 ?_
  rw [b260_116, nI_pw (by omega), if_pos (Int32.le_refl _), ep, if_pos (nI_in (by omega) (by omega)), a2 0 12 (by omega) (by omega), r1, if_pos i2]
  simp only [cf, cb]
  rw [e1, a2 30 b (by omega) (by omega), r3]
theorem k_sheets (h : Rl x C M J) : Lk 139 260 [] x C M Jc J := by
  have hx := tc_P4 x
  have hb := xb1 x
  obtain ⟨t1, t2, t3⟩ := h.T
  have tl := t2.cl (by omega)
  have te := t2.eq (by omega)
  have h1 : Rl x (am_u2 (am_u2 C 1 2 0) 0 8 (-1)) (am_u2 (am_u2 M 0 1 0) 0 91 (-1)) J := h.zt.wst (by unfold rl_W; rw [u2_s, u2_s]) (fun a b z => fr1 (by omega)) (fun a b z => fr1 (by omega))
  generalize hn : Int32.toNatClampNeg (M 0 1) = n at *
  have bad : am_G (am_ev 100) 139 [.ref 0] (C, Jc, (tc_R x), tc_S, 289, 11479) = am_call (am_G (am_ev 99) 110 [.ref 0, .int 5] ((am_u2 (am_u2 C 1 2 0) 0 8 (-1)), Jc, (tc_R x), tc_S, 289, 11479)) (fun r M => am_ev 100 139 37 [.ref 0, .int (nI n), am_un, am_un] (r.toList ++ []) M) → am_G (am_ev 99) 259 [.ref 0, .int (nI n)] ((am_u2 (am_u2 M 0 1 0) 0 91 (-1)), J, tm_R, tm_S, 77, 21637) = some (some (.int 0), ((am_u2 (am_u2 M 0 1 0) 0 91 (-1)), J, tm_R, tm_S, 77, 21637)) → Lk 139 260 [] x C M Jc J := by
    intro e1 e2
    refine ⟨-1, x, _, _, J, ?_, ?_, h1.ref 5 (by omega)⟩
    · refine e1.trans ?_
      rw [crk _ _ _ _ 5 5 rfl (by omega), am_call_s, am_toL, b139_37]
    · rw [b260_0, te, e2, am_call_s, am_toL, b260_20, if_pos rfl, mrk _ _ _ 5 5 rfl (by omega), am_call_s, am_toL, b260_28]
  by_cases q : 1 ≤ n ∧ n ≤ 12
  rotate_left
  · refine bad ?_ ?_
    · rw [b139_0, t1, te]
      by_cases z : n = 0
      · rw [if_pos (show nI n < 1 by rw [z]; decide)]
      · rw [if_neg (show ¬ nI n < 1 from nI_nlt (b := 1) (by omega) (by omega)), if_neg (show ¬ nI n ≤ 12 from nI_ge (a := 12) (by omega) (by omega))]
    · have no : ¬ ((1 : Int32) ≤ nI n ∧ nI n ≤ 12) := by
        rintro ⟨z1, z2⟩
        rw [show (1 : Int32) = nI 1 from rfl, nI_leI (by omega) (by omega)] at z1
        rw [show (12 : Int32) = nI 12 from rfl, nI_leI (by omega) (by omega)] at z2
        omega
      rw [b259_0, m_is0 _ _ _ no, am_call_s, am_toL, b259_7, if_pos rfl]
  obtain ⟨n1, n12⟩ := q
  have mP : am_G (am_ev 99) 259 [.ref 0, .int (nI n)] ((am_u2 (am_u2 M 0 1 0) 0 91 (-1)), J, tm_R, tm_S, 77, 21637) = am_ev 99 259 14 [.ref 0, .int (nI n), .int (nI 0)] [] ((am_u2 (am_u2 M 0 1 0) 0 91 (-1)), J, tm_R, tm_S, 77, 21637) := by
    have ye : (1 : Int32) ≤ nI n ∧ nI n ≤ 12 := ⟨nI_le (a := 1) (by omega) (by omega), nI_le (b := 12) (by omega) (by omega)⟩
    rw [b259_0, m_is1 _ _ _ ye, am_call_s, am_toL, b259_7, if_neg (by decide : ¬ (1 : Int32) = 0)]; rfl
  have cP : am_G (am_ev 100) 139 [.ref 0] (C, Jc, (tc_R x), tc_S, 289, 11479) = am_ev 100 139 40 [.ref 0, .int (nI n), .int (nI 0), am_un] [] ((am_u2 (am_u2 C 1 2 0) 0 8 (-1)), Jc, (tc_R x), tc_S, 289, 11479) := by
    rw [b139_0, t1, te, if_neg (show ¬ nI n < 1 from nI_nlt (b := 1) (by omega) (by omega)), if_pos (show nI n ≤ 12 from nI_le (b := 12) (by omega) (by omega))]; rfl
  generalize hM1 : am_u2 (am_u2 M 0 1 0) 0 91 (-1) = M1 at *
  generalize hC1 : am_u2 (am_u2 C 1 2 0) 0 8 (-1) = C1 at *
  have m0 : am_G (am_ev 100) 260 [.ref 0] (M, J, tm_R, tm_S, 77, 21637) = am_call (am_G (am_ev 99) 259 [.ref 0, .int (nI n)] (M1, J, tm_R, tm_S, 77, 21637)) (fun r M => am_ev 100 260 20 [.ref 0, .int (nI n), am_un, am_un, am_un, am_un, am_un] (r.toList ++ []) M) := by
    rw [b260_0, te, hM1]
  rcases Rl.prt (Jc := Jc) n 0 n C1 M1 am_un h1 (by omega) n12 (fun j hj => by omega) with ⟨⟨C', y1, y2⟩, y3⟩ | ⟨⟨C', w3, y1, y2, y4⟩, y3⟩
  · have h2 : Rl x C' M1 J := h1.scr (fun a b z => y2 a b (by omega)) (fun _ _ _ => rfl) (fun _ _ _ => rfl)
    refine ⟨-1, x, _, _, J, cP.trans y1, ?_, h2.ref 5 (by omega)⟩
    rw [m0, mP, y3, am_call_s, am_toL, b260_20, if_pos rfl, mrk _ _ _ 5 5 rfl (by omega), am_call_s, am_toL, b260_28]
  · have h2 : Rl x C' M1 J := h1.scr (fun a b z => y2 a b (by omega)) (fun _ _ _ => rfl) (fun _ _ _ => rfl)
    have hq0 : 0 < Int32.toNatClampNeg (M1 6 (xb x)) := by
      obtain ⟨q, hq, _⟩ := y4 0 (by omega); omega
    have b6 := h2.Pc.2.1.2.cl (by omega)
    obtain ⟨z1, z2, _, _, ⟨sh, s4, es⟩, s1, ⟨sp, p9, ep⟩, _⟩ := h2.P.2.2.2.2.2.2.2.2.1 (Or.inl hq0)
    have w9 : ∀ j, (fun j => if j < n then Int32.toNatClampNeg (M1 10 (8 * xb x + Int32.toNatClampNeg (M1 1 j))) else 0) j ≤ 99 := by
      intro j
      try dsimp only
      by_cases z : j < n
      · rw [if_pos z]
        obtain ⟨q, hq, eq, _⟩ := y4 j z
        (rw [eq]; (try simp (disch := omega) only [nI_clamp]))
        exact (h2.P.2.2.2.1 q hq).2.2.2.2.2.2.2.1.cl (by omega)
      · rw [if_neg z]; omega
    generalize hW : (fun j => if j < n then Int32.toNatClampNeg (M1 10 (8 * xb x + Int32.toNatClampNeg (M1 1 j))) else 0) = W at w9
    have eW : ∀ j, j < n → W j = Int32.toNatClampNeg (M1 10 (8 * xb x + Int32.toNatClampNeg (M1 1 j))) := fun j hj => by rw [← hW]; exact if_pos hj
    have pr : pmR M1 W (fun j => Int32.toNatClampNeg (M1 1 j)) n sp sh (xb x) := by
      refine ⟨h2.B, hb, es, ep, fun j hj => ?_⟩
      obtain ⟨q, hq, eq, _⟩ := y4 j hj
      have bb := (h2.P.2.2.2.1 q hq).2.2.2.2.2.2.2.1
      have cq : Int32.toNatClampNeg (M1 1 j) = q := by rw [eq]; exact nI_clamp (by omega)
      (rw [eW j hj]; (try simp only [cq]))
      exact ⟨eq, by omega, bb.eq (by omega)⟩
    have hw : ∀ j, j < n → C' 281 j = nI (W j) := by
      intro j hj
      obtain ⟨q, hq, eq, e2⟩ := y4 j hj
      have cq : Int32.toNatClampNeg (M1 1 j) = q := by rw [eq]; exact nI_clamp (by omega)
      (rw [e2, eW j hj]; (try simp only [cq]))
      exact (h2.P.2.2.2.1 q hq).2.2.2.2.2.2.2.1.eq (by omega)
    have mA : am_G (am_ev 100) 260 [.ref 0] (M, J, tm_R, tm_S, 77, 21637) = am_ev 100 260 33 [.ref 0, .int (nI n), .int (nI (nsm W 0)), .int (nI 0), am_un, am_un, am_un] [] (M1, J, tm_R, tm_S, 77, 21637) := by
      rw [m0, mP, y3, am_call_s, am_toL, b260_20, if_neg (by decide : ¬ (1 : Int32) = 0)]; rfl
    have few := c_few (sh := sh) (sp := sp) 96 C' Jc x n1 n12 s4 p9 (fun j hj => by have := w9 j; omega) hw
    have cA : am_G (am_ev 100) 139 [.ref 0] (C, Jc, (tc_R x), tc_S, 289, 11479) = am_call (am_G (am_ev 99) 51 [.ref 280, .int (nI n), .int (nI sh), .int (nI sp)] (C', Jc, (tc_R x), tc_S, 289, 11479)) (fun r M => am_ev 100 139 131 [.ref 0, .int (nI n), .int (nI n), w3] (r.toList ++ []) M) := by
      refine cP.trans (y1.trans ?_)
      rw [b139_40, if_pos (Int32.le_refl _), z1, z2, es, ep]
    rcases few with ⟨⟨j, hj, lj⟩, f2⟩ | ⟨f1, C2, c, f2, f3, f4, f5⟩
    · rcases m_wid (J := J) pr n12 s4 w9 am_un am_un am_un n 0 (by omega) (fun j hj => by omega) with ⟨_, g2⟩ | ⟨g1, _⟩
      · refine ⟨-1, x, C', M1, J, ?_, mA.trans g2, h2⟩
        rw [cA, f2, am_call_s, am_toL, b139_131, if_pos rfl]
      · have := g1 j hj; omega
    · rcases m_wid (J := J) pr n12 s4 w9 am_un am_un am_un n 0 (by omega) (fun j hj => by omega) with ⟨⟨j, hj, lj⟩, _⟩ | ⟨_, g2⟩
      · have := f1 j hj; omega
      · obtain ⟨D, c', k1, k2, k3, k4⟩ := m_pack (J := J) pr n1 n12 s4 p9 w9 f1 (nI (nsm W n)) am_un am_un am_un
        obtain rfl : c = c' := opt_u f5 k4
        have al := c_all 98 C2 Jc x n12 (fun j hj => by rw [f3 _ _ (by omega)]; exact hw j hj)
        have e16 : C2 (tc_P x) 16 = nI sh := by rw [f3 _ _ (by omega), z1, es]
        have h3 : Rl x C2 D J := h2.scr (fun a b z => f3 a b (by omega)) (fun a b z => k2 a b (by omega) (by omega)) (fun _ _ _ => rfl)
        refine ⟨nI c, x, am_u2 C2 0 8 (nI sh * nI c - nI (nsm W n)), _, J, ?_, mA.trans (g2.trans k1), h3.wst ?_ (fun a b z => fr1 (by omega)) (fun a b z => fr1 (by omega))⟩
        · rw [cA, f2, am_call_s, am_toL, b139_131, if_neg (nI_ne (by omega)), al, am_call_s, am_toL, b139_158, e16]
        · unfold rl_W
          rw [u2_s, u2_s, Int32.mul_comm]
end SH2
