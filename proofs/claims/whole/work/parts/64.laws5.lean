/-! the law that a tyre breaks; law, bad, tyre, match -/
section LW
variable {x : Bool} {C C0 M M1 : tI} {J J0 Jc : tJ}
theorem m_reck {b f : Nat} (hb : b ≤ 1) (hB : M1 0 12 = nI b) {env : Nat → Int} (hev : l_env env) (h47 : ∀ k, 1 ≤ k → k ≤ 5 → M1 47 k = Int32.ofInt (env k)) {A : List (Nat × Int)} (se : f + A.length ≤ 1600) (hA : l_atM M1 b f A) {v : Int} (hr : l_rn 1600 env A [] = some [v]) (J : tJ) (fJ : ∀ a b, a ≠ 46 → J a b = J0 a b) (d : Nat) : ∃ J', am_G (am_ev (d + 3)) 208 [.ref 0, .int (nI f), .int (nI (f + A.length))] (M1, J, tm_R, tm_S, 77, 21637) = some (some (.long (Int64.ofInt v)), (M1, J', tm_R, tm_S, 77, 21637)) ∧ ∀ a b, a ≠ 46 → J' a b = J0 a b := by
  obtain ⟨J', w5, _, e, q⟩ := mmR.run (J0 := J0) hb hB hev h47 (.int (nI f)) d A se rfl hA A 0 J [] [v] am_un rfl (Nat.zero_le _) (Nat.le_refl _) ⟨trivial, (fun v hv => by cases hv), fJ⟩ hr
  have e1 : (1600 : Int32) * M1 0 12 + nI f = nI (1600 * b + f) := by rw [hB]; exact nI_ix 1600 b f
  have e2 : (1600 : Int32) * M1 0 12 + nI (f + A.length) = nI (1600 * b + (f + A.length)) := by rw [hB]; exact nI_ix 1600 b _
  have c0 : Int32.toNatClampNeg 0 = 0 := rfl
  have e3 : J' 46 0 = Int64.ofInt v := q.1.1
  refine ⟨J', ?_, q.2.2⟩
  rw [b208_0, e1]
  refine Eq.trans e ?_
  rw [b208_14, e2, if_pos (Int32.le_refl _), if_pos (by decide : am_in (0 : Int32) 1650)]
  simp only [c0, e3]
/-- what the model writes down of a tyre for its laws -/
def mmt (M : tI) (t : Nat) : tI := am_u2 (am_u2 (am_u2 (am_u2 (am_u2 M 47 1 (M 58 t)) 47 2 (M 59 t)) 47 3 (M 60 t)) 47 4 (M 54 t)) 47 5 (M 61 t)
theorem mmt_f (M : tI) (t : Nat) {a : Nat} (h : a ≠ 47) (b : Nat) : mmt M t a b = M a b := by
  unfold mmt
  rw [u2_c h, u2_c h, u2_c h, u2_c h, u2_c h]
theorem mmt_47 (M : tI) (t : Nat) : ∀ k, 1 ≤ k → k ≤ 5 → mmt M t 47 k = Int32.ofInt (evM M t k) := by
  intro k h1 h2
  have hk : k = 1 ∨ k = 2 ∨ k = 3 ∨ k = 4 ∨ k = 5 := by omega
  unfold mmt evM
  rcases hk with rfl | rfl | rfl | rfl | rfl
  · rw [u2_p (by omega), u2_p (by omega), u2_p (by omega), u2_p (by omega), u2_s]; exact (i_self _).symm
  · rw [u2_p (by omega), u2_p (by omega), u2_p (by omega), u2_s]; exact (i_self _).symm
  · rw [u2_p (by omega), u2_p (by omega), u2_s]; exact (i_self _).symm
  · rw [u2_p (by omega), u2_s]; exact (i_self _).symm
  · rw [u2_s]; exact (i_self _).symm
theorem Rl.lw (h : Rl x C M J) {t : Nat} (ht : t < Int32.toNatClampNeg (M 0 74)) (d e : Nat) : ∃ (v : Int32) (C' M' : tI) (J' : tJ), am_G (am_ev (d + 6)) 27 [.ref 41, .int (nI t)] (C, Jc, (tc_R x), tc_S, 289, 11479) = some (some (.int v), (C', Jc, (tc_R x), tc_S, 289, 11479)) ∧ am_G (am_ev (e + 4)) 228 [.ref 0, .int (nI t)] (M, J, tm_R, tm_S, 77, 21637) = some (some (.int v), (M', J', tm_R, tm_S, 77, 21637)) ∧ Rl x C' M' J' ∧ ∀ a b, a ≠ 47 → M' a b = M a b := by
  have nt := h.ntB.cl (by omega)
  have hx := tc_P4 x
  have hb := xb1 x
  have i60 : am_in (nI t) 60 := nI_in (by omega) (by omega)
  have ct : (nI t).toNatClampNeg = t := nI_clamp (by omega)
  have g := h.H.2.2.2.1 t ht
  by_cases h2 : M 55 t = 2
  · obtain ⟨hev, _, _⟩ := h.ev ht h2
    obtain ⟨n1, n2⟩ := h.Pc.2.2.2.2.2.2.1
    have n8 := n2.cl (by omega)
    have n3 := n2.eq (by omega)
    have hL := h.P.2.2.2.2.2.2.2.2.2
    generalize hN : Int32.toNatClampNeg (M 34 (xb x)) = N at *
    rw [n3] at n1
    have loop : ∀ (n k : Nat) (C1 : tI) (J1 : tJ), k + n = N → (∀ a b, a ≠ tc_P x + 36 → (a = tc_P x + 33 → b ≠ 4) → C1 a b = C a b) → (∀ a b, a ≠ 46 → J1 a b = J a b) → ∃ (v : Int32) (C' : tI) (J' : tJ), am_ev (d + 6) 27 14 [.ref 41, .int (nI t), .int (nI k)] [] (C1, Jc, (tc_R x), tc_S, 289, 11479) = some (some (.int v), (C', Jc, (tc_R x), tc_S, 289, 11479)) ∧ am_ev (e + 4) 228 80 [.ref 0, .int (nI t), .int (nI (8 * xb x + k))] [] ((mmt M t), J1, tm_R, tm_S, 77, 21637) = some (some (.int v), ((mmt M t), J', tm_R, tm_S, 77, 21637)) ∧ (∀ a b, a ≠ tc_P x + 36 → (a = tc_P x + 33 → b ≠ 4) → C' a b = C a b) ∧ ∀ a b, a ≠ 46 → J' a b = J a b := by
      intro n
      induction n with
      | zero =>
        intro k C1 J1 hk f1 f2
        have hk : k = N := by omega
        subst hk
        refine ⟨-1, C1, J1, ?_, ?_, f1, f2⟩
        · have e6 : C1 (tc_P x + 1) 6 = nI k := by rw [f1 _ _ (by omega) (by omega)]; exact n1
          have c6 : Int32.toNatClampNeg 6 = 6 := rfl
          rw [b27_14, if_pos (by decide : am_in (6 : Int32) 9)]
          simp only [c6]
          rw [e6, if_pos (Int32.le_refl _)]
        · have e12 : mmt M t 0 12 = nI (xb x) := by rw [mmt_f M t (by omega)]; exact h.B
          have e34 : mmt M t 34 (xb x) = nI k := by rw [mmt_f M t (by omega)]; exact n3
          have cx : (nI (xb x)).toNatClampNeg = xb x := nI_clamp (by omega)
          have e8 : (8 : Int32) * nI (xb x) + nI k = nI (8 * xb x + k) := nI_ix 8 _ _
          rw [b228_80, e12, if_pos (nI_in (by omega) (by omega))]
          simp only [cx]
          rw [e34, e8, if_pos (Int32.le_refl _)]
      | succ n ih =>
        intro k C1 J1 hk f1 f2
        obtain ⟨A, B, s, f, a1, a2, a3, a4, a5, a6, a7, a8, a9⟩ := hL k (by omega)
        obtain ⟨v, hv, r1, r2⟩ := a9 _ hev
        obtain ⟨C2, e1, f3⟩ := h.hd (Jc := Jc) ht h2 (law := k) (by omega) hv a3 a1 a2 a7 r1 C1 f1 d
        have e12 : mmt M t 0 12 = nI (xb x) := by rw [mmt_f M t (by omega)]; exact h.B
        have a8' : l_atM (mmt M t) (xb x) f B := fun i hi => by rw [mmt_f M t (by omega), mmt_f M t (by omega)]; exact a8 i hi
        obtain ⟨J2, e2, f4⟩ := m_reck (J0 := J) hb e12 hev (mmt_47 M t) a6 a8' r2 J1 f2 e
        have e34 : mmt M t 34 (xb x) = nI N := by rw [mmt_f M t (by omega)]; exact n3
        have e35 : mmt M t 35 (8 * xb x + k) = nI f := by rw [mmt_f M t (by omega)]; exact a4
        have e36 : mmt M t 36 (8 * xb x + k) = nI (f + B.length) := by rw [mmt_f M t (by omega)]; exact a5
        have cx : (nI (xb x)).toNatClampNeg = xb x := nI_clamp (by omega)
        have ck : (nI (8 * xb x + k)).toNatClampNeg = 8 * xb x + k := nI_clamp (by omega)
        have i16 : am_in (nI (8 * xb x + k)) 16 := nI_in (by omega) (by omega)
        have e8 : (8 : Int32) * nI (xb x) + nI N = nI (8 * xb x + N) := nI_ix 8 _ _
        have e80 : (8 : Int32) * nI (xb x) = nI (8 * xb x) := nI_mul 8 _
        have e6 : C1 (tc_P x + 1) 6 = nI N := by rw [f1 _ _ (by omega) (by omega)]; exact n1
        have c6 : Int32.toNatClampNeg 6 = 6 := rfl
        have sC : am_ev (d + 6) 27 14 [.ref 41, .int (nI t), .int (nI k)] [] (C1, Jc, (tc_R x), tc_S, 289, 11479) = am_ev (d + 6) 27 45 [.ref 41, .int (nI t), .int (nI k)] [.int (am_b (v = 1))] (C2, Jc, (tc_R x), tc_S, 289, 11479) := by
          rw [b27_14, if_pos (by decide : am_in (6 : Int32) 9)]
          simp only [c6, ct]
          rw [e6, if_neg (nI_ge (by omega) (by omega)), if_pos i60, e1, am_call_s, am_toL]
        have sM : am_ev (e + 4) 228 80 [.ref 0, .int (nI t), .int (nI (8 * xb x + k))] [] ((mmt M t), J1, tm_R, tm_S, 77, 21637) = am_ev (e + 4) 228 117 [.ref 0, .int (nI t), .int (nI (8 * xb x + k))] [.long (Int64.ofInt v)] ((mmt M t), J2, tm_R, tm_S, 77, 21637) := by
          rw [b228_80, e12, if_pos (nI_in (by omega) (by omega))]
          simp only [cx, ck]
          rw [e34, e8, if_neg (nI_ge (by omega) (by omega)), if_pos i16, if_pos i16, e35, e36, e2, am_call_s, am_toL]
        have sM2 := sM.trans (b228_117 (e + 3) (mmt M t) J2 (some (.inr (nI t))) (nI (8 * xb x + k)) (Int64.ofInt v))
        rw [sC, sM2, b27_45]
        rcases hv with rfl | rfl
        · rw [if_pos (show am_b ((0 : Int) = 1) = 0 from rfl), if_neg (by decide +kernel : ¬ lg_cmp (Int64.ofInt 0) 1 = 0), nI_1, nI_1]
          exact ih (k + 1) C2 J2 (by omega) f3 f4
        · rw [if_neg (by decide +kernel : ¬ am_b ((1 : Int) = 1) = 0), if_pos (by decide +kernel : lg_cmp (Int64.ofInt 1) 1 = 0), e12, e80, nI_sub (by omega) (by omega), Nat.add_sub_cancel_left]
          exact ⟨nI k, C2, J2, rfl, rfl, f3, f4⟩
    obtain ⟨v, C', J', e1, e2, f1, f2⟩ := loop N 0 C J (by omega) (fun _ _ _ _ => rfl) (fun _ _ _ => rfl)
    refine ⟨v, C', mmt M t, J', ?_, ?_, h.scr (fun a b q => f1 a b (by omega) (by omega)) (fun a b q => mmt_f M t (by omega) b) (fun a b q => f2 a b (by omega)), fun a b q => mmt_f M t q b⟩
    · rw [b27_0, if_pos i60]
      simp only [ct]
      rw [g.2.1, h2, if_pos rfl]
      exact e1
    · have c1 : Int32.toNatClampNeg 1 = 1 := rfl
      have c2 : Int32.toNatClampNeg 2 = 2 := rfl
      have c3 : Int32.toNatClampNeg 3 = 3 := rfl
      have c4 : Int32.toNatClampNeg 4 = 4 := rfl
      have c5 : Int32.toNatClampNeg 5 = 5 := rfl
      have e8 : (8 : Int32) * nI (xb x) = nI (8 * xb x + 0) := nI_mul 8 _
      rw [b228_0, if_pos i60]
      simp only [ct, c1, c2, c3, c4, c5]
      rw [h2, if_pos rfl, if_pos i60, if_pos (by decide : am_in (1 : Int32) 10), if_pos i60, if_pos (by decide : am_in (2 : Int32) 10), if_pos i60, if_pos (by decide : am_in (3 : Int32) 10), if_pos i60, if_pos (by decide : am_in (4 : Int32) 10), if_pos i60, if_pos (by decide : am_in (5 : Int32) 10), h.B, e8]
      exact e2
  · refine ⟨-1, C, M, J, ?_, ?_, h, fun _ _ _ => rfl⟩
    · rw [b27_0, if_pos i60]
      simp only [ct]
      rw [g.2.1, if_neg h2]
    · rw [b228_0, if_pos i60]
      simp only [ct]
      rw [if_neg h2]
theorem k_law (h : Rl x C M J) (a : Int32) : Lk 138 258 [.int a] x C M Jc J := by
  rcases h.ty (Jc := Jc) a 98 97 with ⟨e1, e2⟩ | ⟨t, ht, rfl, h60, e1, e2⟩
  · exact ⟨-1, x, C, M, J, by rw [b138_0, e1, am_call_s, am_toL, b138_8, if_pos rfl], by rw [b258_0, e2, am_call_s, am_toL, b258_5, if_pos rfl], h⟩
  · obtain ⟨v, C', M', J', l1, l2, l3, _⟩ := h.lw (Jc := Jc) ht 93 95
    exact ⟨v, x, C', M', J', by rw [b138_0, e1, am_call_s, am_toL, b138_8, if_neg (by decide : ¬ (1 : Int32) = 0), l1, am_call_s, am_toL, b138_19], by rw [b258_0, e2, am_call_s, am_toL, b258_5, if_neg (by decide : ¬ (1 : Int32) = 0), l2, am_call_s, am_toL, b258_13], l3⟩
/-- isBad -/
theorem Rl.ib (h : Rl x C M J) {t : Nat} (ht : t < Int32.toNatClampNeg (M 0 74)) (d e : Nat) : ∃ (v : Int32) (C' M' : tI) (J' : tJ), am_G (am_ev (d + 7)) 28 [.ref 41, .int (nI t)] (C, Jc, (tc_R x), tc_S, 289, 11479) = some (some (.int (if v = -1 then 0 else 1)), (C', Jc, (tc_R x), tc_S, 289, 11479)) ∧ am_G (am_ev (e + 4)) 228 [.ref 0, .int (nI t)] (M, J, tm_R, tm_S, 77, 21637) = some (some (.int v), (M', J', tm_R, tm_S, 77, 21637)) ∧ Rl x C' M' J' ∧ ∀ a b, a ≠ 47 → M' a b = M a b := by
  obtain ⟨v, C', M', J', l1, l2, l3, l4⟩ := h.lw (Jc := Jc) ht d e
  refine ⟨v, C', M', J', ?_, l2, l3, l4⟩
  rw [b28_0, l1, am_call_s, am_toL, b28_5]
  by_cases q : v = -1
  · rw [if_pos q, if_pos q]
  · rw [if_neg q, if_neg q]
theorem bad_loop (v : Int32) : ∀ (n k : Nat) (c : Int32) (C M : tI) (J : tJ), Rl x C M J → Int32.toNatClampNeg (M 0 74) = k + n → ∃ (r : Int32) (C' M' : tI) (J' : tJ), am_ev 100 137 26 [.ref 0, .int v, .int c, .int (nI k)] [] (C, Jc, (tc_R x), tc_S, 289, 11479) = some (some (.int r), (C', Jc, (tc_R x), tc_S, 289, 11479)) ∧ am_ev 100 257 20 [.ref 0, .int v, .int c, .int (nI k)] [] (M, J, tm_R, tm_S, 77, 21637) = some (some (.int r), (M', J', tm_R, tm_S, 77, 21637)) ∧ Rl x C' M' J' := by
  intro n
  induction n with
  | zero =>
    intro k c C M J h hk
    have he := h.ntB.eq (by omega)
    have g : M 0 74 ≤ nI k := by rw [he, hk]; exact Int32.le_refl _
    exact ⟨c, C, M, J, by rw [b137_26, h.nt, if_pos g], by rw [b257_20, if_pos g], h⟩
  | succ n ih =>
    intro k c C M J h hk
    have nt := h.ntB.cl (by omega)
    have he := h.ntB.eq (by omega)
    have g : ¬ M 0 74 ≤ nI k := by rw [he]; exact nI_ge (by omega) (by omega)
    have i60 : am_in (nI k) 60 := nI_in (by omega) (by omega)
    have ck : (nI k).toNatClampNeg = k := nI_clamp (by omega)
    have ht : k < Int32.toNatClampNeg (M 0 74) := by omega
    have gt := h.H.2.2.2.1 k ht
    obtain ⟨w, C1, M1, J1, l1, l2, l3, l4⟩ := h.ib (Jc := Jc) ht 92 95
    have c0 : c + 0 = c := Int32.add_zero c
    have nx : ∀ c' : Int32, ∃ (r : Int32) (C' M' : tI) (J' : tJ), am_ev 100 137 26 [.ref 0, .int v, .int c', .int (nI (k + 1))] [] (C1, Jc, (tc_R x), tc_S, 289, 11479) = some (some (.int r), (C', Jc, (tc_R x), tc_S, 289, 11479)) ∧ am_ev 100 257 20 [.ref 0, .int v, .int c', .int (nI (k + 1))] [] (M1, J1, tm_R, tm_S, 77, 21637) = some (some (.int r), (M', J', tm_R, tm_S, 77, 21637)) ∧ Rl x C' M' J' := fun c' => ih (k + 1) c' C1 M1 J1 l3 (by rw [l4 _ _ (by omega)]; omega)
    have go : ∃ (r : Int32) (C' M' : tI) (J' : tJ), am_ev 100 137 66 [.ref 0, .int v, .int c, .int (nI k)] [.int (if w = -1 then 0 else 1)] (C1, Jc, (tc_R x), tc_S, 289, 11479) = some (some (.int r), (C', Jc, (tc_R x), tc_S, 289, 11479)) ∧ am_ev 100 257 49 [.ref 0, .int v, .int c, .int (nI k)] [.int w, .int c] (M1, J1, tm_R, tm_S, 77, 21637) = some (some (.int r), (M', J', tm_R, tm_S, 77, 21637)) ∧ Rl x C' M' J' := by
      rw [b137_66, b257_49, nI_1, c0]
      by_cases q : w = -1
      · rw [if_pos q, if_pos rfl, if_pos q]; exact nx c
      · rw [if_neg q, if_neg (by decide : ¬ (1 : Int32) = 0), if_neg q]; exact nx (c + 1)
    rw [b137_26, b257_20, h.nt, if_neg g, if_neg g]
    by_cases q : v = -1
    · rw [if_pos q, if_pos q, l1, l2, am_call_s, am_call_s, am_toL, am_toL]
      exact go
    · rw [if_neg q, if_neg q, if_pos i60, if_pos i60]
      simp only [ck]
      rw [if_pos (tt_k (k := k) (by omega)), gt.1]
      by_cases q2 : M 54 k = v
      · rw [if_pos q2, if_pos q2, l1, l2, am_call_s, am_call_s, am_toL, am_toL]
        exact go
      · rw [if_neg q2, if_neg q2, nI_1, c0]
        exact ih (k + 1) c C M J h (by omega)
theorem k_bad (h : Rl x C M J) (a : Int32) : Lk 137 257 [.int a] x C M Jc J := by
  obtain ⟨r, C', M', J', e1, e2, e3⟩ := bad_loop (Jc := Jc) a (Int32.toNatClampNeg (M 0 74)) 0 0 C M J h (by omega)
  by_cases q : a = -1
  · exact ⟨r, x, C', M', J', by rw [b137_0, if_pos q]; exact e1, by rw [b257_0, if_pos q]; exact e2, e3⟩
  · rcases h.kind (Jc := Jc) (q := 2) (by omega) a 98 97 with ⟨k1, k2⟩ | ⟨t, ht, rfl, h60, k1, k2⟩
    · have k1 : am_G (am_ev 99) 56 [.ref (tc_P x), .int 2, .int a] (C, Jc, (tc_R x), tc_S, 289, 11479) = some (some (.int 0), (C, Jc, (tc_R x), tc_S, 289, 11479)) := k1
      have k2 : am_G (am_ev 99) 210 [.ref 0, .int 2, .int a] (M, J, tm_R, tm_S, 77, 21637) = some (some (.int 0), (M, J, tm_R, tm_S, 77, 21637)) := k2
      exact ⟨-1, x, C, M, J, by rw [b137_0, if_neg q, k1, am_call_s, am_toL, b137_17, if_pos rfl], by rw [b257_0, if_neg q, k2, am_call_s, am_toL, b257_11, if_pos rfl], h⟩
    · have k1 : am_G (am_ev 99) 56 [.ref (tc_P x), .int 2, .int (nI t)] (C, Jc, (tc_R x), tc_S, 289, 11479) = some (some (.int 1), (C, Jc, (tc_R x), tc_S, 289, 11479)) := k1
      have k2 : am_G (am_ev 99) 210 [.ref 0, .int 2, .int (nI t)] (M, J, tm_R, tm_S, 77, 21637) = some (some (.int 1), (M, J, tm_R, tm_S, 77, 21637)) := k2
      exact ⟨r, x, C', M', J', by rw [b137_0, if_neg q, k1, am_call_s, am_toL, b137_17, if_neg (by decide : ¬ (1 : Int32) = 0)]; exact e1, by rw [b257_0, if_neg q, k2, am_call_s, am_toL, b257_11, if_neg (by decide : ¬ (1 : Int32) = 0)]; exact e2, e3⟩
theorem k_tyre (h : Rl x C M J) (a w : Int32) : Lk 120 229 [.int a, .int w] x C M Jc J := by
  rcases h.ty (Jc := Jc) a 98 97 with ⟨e1, e2⟩ | ⟨t, ht, rfl, h60, e1, e2⟩
  · exact ⟨-1, x, C, M, J, by rw [b120_0, e1, am_call_s, am_toL, b120_8, if_pos rfl], by rw [b229_0, e2, am_call_s, am_toL, b229_5, if_pos rfl], h⟩
  · have i60 : am_in (nI t) 60 := nI_in (by omega) (by omega)
    have ct : (nI t).toNatClampNeg = t := nI_clamp (by omega)
    have g := h.H.2.2.2.1 t ht
    have tk := tt_k (k := t) h60
    have m0 : am_G (am_ev 100) 120 [.ref 0, .int (nI t), .int w] (C, Jc, (tc_R x), tc_S, 289, 11479) = _ := (b120_0 99 C Jc x (nI t) w).trans (by rw [e1, am_call_s, am_toL, b120_8, if_neg (by decide : ¬ (1 : Int32) = 0), if_pos i60])
    have m1 : am_G (am_ev 100) 229 [.ref 0, .int (nI t), .int w] (M, J, tm_R, tm_S, 77, 21637) = _ := (b229_0 99 M J (nI t) w).trans (by rw [e2, am_call_s, am_toL, b229_5, if_neg (by decide : ¬ (1 : Int32) = 0)])
    unfold Lk
    rw [m0, m1]
    simp only [ct]
    by_cases w0 : w = 0
    · rw [if_pos w0, if_pos w0, if_pos tk, if_pos i60, g.1]; exact ⟨_, x, C, M, J, rfl, rfl, h⟩
    rw [if_neg w0, if_neg w0]
    by_cases w1 : w = 1
    · rw [if_pos w1, if_pos w1, if_pos i60, if_pos i60, g.2.1]; exact ⟨_, x, C, M, J, rfl, rfl, h⟩
    rw [if_neg w1, if_neg w1]
    by_cases w2 : w = 2
    · rw [if_pos w2, if_pos w2, if_pos tk, if_pos i60, g.2.2.1]; exact ⟨_, x, C, M, J, rfl, rfl, h⟩
    rw [if_neg w2, if_neg w2]
    by_cases w3 : w = 3
    · rw [if_pos w3, if_pos w3, if_pos tk, if_pos i60, g.2.2.2.1]; exact ⟨_, x, C, M, J, rfl, rfl, h⟩
    rw [if_neg w3, if_neg w3]
    by_cases w4 : w = 4
    · rw [if_pos w4, if_pos w4, if_pos tk, if_pos i60, g.2.2.2.2.1]; exact ⟨_, x, C, M, J, rfl, rfl, h⟩
    rw [if_neg w4, if_neg w4]
    by_cases w5 : w = 5
    · rw [if_pos w5, if_pos w5, if_pos tk, if_pos i60, g.2.2.2.2.2.1]; exact ⟨_, x, C, M, J, rfl, rfl, h⟩
    rw [if_neg w5, if_neg w5]
    by_cases w6 : w = 6
    · rw [if_pos w6, if_pos w6, if_pos tk, if_pos i60, g.2.2.2.2.2.2.1]; exact ⟨_, x, C, M, J, rfl, rfl, h⟩
    rw [if_neg w6, if_neg w6]
    by_cases w7 : w = 7
    · rw [if_pos w7, if_pos w7, if_pos ⟨tk, (by have z : am_cats ([] : List Value) = 0 := rfl; omega), by omega⟩, if_pos i60, b107_0, if_pos tk]
      rcases g.2.2.2.2.2.2.2.2.2.2.2.2.2.2.2 with z | z
      · rw [z.1, if_pos rfl, am_call_s, am_toL, b120_120, z.2.1]; exact ⟨_, x, C, M, J, rfl, rfl, h⟩
      · obtain ⟨s, hs, es⟩ := z.1
        have ne : ¬ C (150 + 2 * t) 6 = -1 := by rw [es]; exact nI_ne (by omega)
        rw [if_neg ne, if_pos tk, if_pos tk, am_call_s, am_toL, b120_120, z.2.2.2.1, g.2.2.1]; exact ⟨_, x, C, M, J, rfl, rfl, h⟩
    rw [if_neg w7, if_neg w7]
    by_cases w8 : w = 8
    · rw [if_pos w8, if_pos w8, if_pos i60, if_pos i60, g.2.1]
      by_cases q : M 55 t = 2
      · obtain ⟨v, C', M', J', l1, l2, l3, l4⟩ := h.ib (Jc := Jc) ht 92 95
        rw [if_pos q, if_pos q, l1, l2, am_call_s, am_call_s, am_toL, am_toL, b120_142, b229_135]
        by_cases q2 : v = -1
        · rw [if_pos q2, if_pos rfl, if_pos q2]; exact ⟨_, x, C', M', J', rfl, rfl, l3⟩
        · rw [if_neg q2, if_neg (by decide : ¬ (1 : Int32) = 0), if_neg q2]; exact ⟨_, x, C', M', J', rfl, rfl, l3⟩
      · rw [if_neg q, if_neg q]; exact ⟨_, x, C, M, J, rfl, rfl, h⟩
    rw [if_neg w8, if_neg w8]
    exact ⟨_, x, C, M, J, rfl, rfl, h⟩
theorem match_loop : ∀ (n k : Nat) (a b : Int32) (v4 v5 v6 : Value) (C M : tI) (J : tJ), Rl x C M J → Int32.toNatClampNeg (M 0 74) = k + n → ∃ (r : Int32) (C' M' : tI) (J' : tJ), am_ev 100 150 6 [.ref 0, .int a, .int b, .int (nI k), v4, v5] [] (C, Jc, (tc_R x), tc_S, 289, 11479) = some (some (.int r), (C', Jc, (tc_R x), tc_S, 289, 11479)) ∧ am_ev 100 279 6 [.ref 0, .int a, .int b, .int (nI k), v6] [] (M, J, tm_R, tm_S, 77, 21637) = some (some (.int r), (M', J', tm_R, tm_S, 77, 21637)) ∧ Rl x C' M' J' := by
  intro n
  induction n with
  | zero =>
    intro k a b v4 v5 v6 C M J h hk
    have he := h.ntB.eq (by omega)
    have g : M 0 74 ≤ nI k := by rw [he, hk]; exact Int32.le_refl _
    exact ⟨a, C, M, J, by rw [b150_6, h.nt, if_pos g], by rw [b279_6, if_pos g], h⟩
  | succ n ih =>
    intro k a b v4 v5 v6 C M J h hk
    have nt := h.ntB.cl (by omega)
    have he := h.ntB.eq (by omega)
    have g : ¬ M 0 74 ≤ nI k := by rw [he]; exact nI_ge (by omega) (by omega)
    have i60 : am_in (nI k) 60 := nI_in (by omega) (by omega)
    have ck : (nI k).toNatClampNeg = k := nI_clamp (by omega)
    have ht : k < Int32.toNatClampNeg (M 0 74) := by omega
    have gt := h.H.2.2.2.1 k ht
    obtain ⟨w, C1, M1, J1, l1, l2, l3, l4⟩ := h.ib (Jc := Jc) ht 92 95
    have e74 : M1 0 74 = M 0 74 := l4 _ _ (by omega)
    have ht1 : k < Int32.toNatClampNeg (M1 0 74) := by rw [e74]; omega
    rw [b150_6, b279_6, h.nt, if_neg g, if_neg g, if_pos i60, if_pos i60]
    simp only [ck]
    rw [gt.2.1]
    by_cases q : M 55 k = 2
    · rw [if_pos q, if_pos q, l1, l2, am_call_s, am_call_s, am_toL, am_toL, b150_38, b279_29]
      by_cases q2 : w = -1
      · rw [if_pos q2, if_pos rfl, if_pos q2, if_pos i60]
        simp only [ck]
        rw [if_pos (tt_k (k := k) (by omega)), tr_w x k (by omega)]
        have b7 := btT_le M1 k 7
        have sC : am_ev 100 150 53 [.ref 0, .int a, .int b, .int (nI k), v4, v5] [.ref (150 + 2 * k + 1)] (C1, Jc, (tc_R x), tc_S, 289, 11479) = am_ev 100 150 67 [.ref 0, .int a, .int b, .int (nI k), .ref (150 + 2 * k + 1), v5] [.int (spS M1 k (btT M1 k 7))] (C1, Jc, (tc_R x), tc_S, 289, 11479) := by
          rw [b150_53, l3.btC ht1, am_call_s, am_toL, b150_64, l3.spC ht1 (by omega), am_call_s, am_toL]
        have sM : am_ev 100 279 29 [.ref 0, .int a, .int b, .int (nI k), v6] [.int w] (M1, J1, tm_R, tm_S, 77, 21637) = am_ev 100 279 46 [.ref 0, .int a, .int b, .int (nI k), v6] [.int (spS M1 k (btT M1 k 7))] (M1, J1, tm_R, tm_S, 77, 21637) := by
          rw [b279_29, if_pos q2, l3.btM (by omega), am_call_s, am_toL, b279_43, l3.spM (by omega) (by omega), am_call_s, am_toL]
        rw [b279_29, if_pos q2] at sM
        rw [sM, b279_46]
        have sC2 := sC.trans (b150_67 99 C1 Jc x a b (nI k) (some (.inl (150 + 2 * k + 1))) v5 (spS M1 k (btT M1 k 7)))
        have nx : ∀ (a b : Int32) (v4 v5 v6 : Value), _ := fun a b v4 v5 v6 => ih (k + 1) a b v4 v5 v6 C1 M1 J1 l3 (by rw [e74]; omega)
        show ∃ (r : Int32) (C' M' : tI) (J' : tJ), am_ev 100 150 53 [.ref 0, .int a, .int b, .int (nI k), v4, v5] [.ref (150 + 2 * k + 1)] (C1, Jc, (tc_R x), tc_S, 289, 11479) = _ ∧ _
        rw [sC2, nI_1]
        by_cases q3 : a = -1
        · rw [if_pos q3, if_pos q3]; exact nx _ _ _ _ _
        · rw [if_neg q3, if_neg q3]
          by_cases q4 : b ≤ spS M1 k (btT M1 k 7)
          · rw [if_pos q4, if_neg (Int32.not_lt.mpr q4)]; exact nx _ _ _ _ _
          · rw [if_neg q4, if_pos (Int32.not_le.mp q4)]; exact nx _ _ _ _ _
      · rw [if_neg q2, if_neg (by decide : ¬ (1 : Int32) = 0), if_neg q2, nI_1]
        exact ih (k + 1) a b _ _ _ C1 M1 J1 l3 (by rw [e74]; omega)
    · rw [if_neg q, if_neg q, nI_1]
      exact ih (k + 1) a b _ _ _ C M J h (by omega)
theorem k_match (h : Rl x C M J) : Lk 150 279 [] x C M Jc J := by
  obtain ⟨r, C', M', J', e1, e2, e3⟩ := match_loop (Jc := Jc) (Int32.toNatClampNeg (M 0 74)) 0 (-1) 0 am_un am_un am_un C M J h (by omega)
  exact ⟨r, x, C', M', J', by rw [b150_0]; exact e1, by rw [b279_0]; exact e2, e3⟩
end LW
