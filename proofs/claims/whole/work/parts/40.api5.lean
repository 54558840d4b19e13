/-! scrap, clean, mount; mould, needs, change -/
section API5
variable {x : Bool} {C M : tI} {J Jc : tJ}
theorem Rl.n11 (h : Rl x C M J) : C (tc_P x + 1) 2 = M 11 (xb x) ∧ bd (M 11 (xb x)) 6 := h.Pc.2.2.1
theorem Rl.n20 (h : Rl x C M J) : C (tc_P x + 1) 3 = M 20 (xb x) ∧ bd (M 20 (xb x)) 4 := h.Pc.2.2.2.1
theorem Rl.n22 (h : Rl x C M J) : C (tc_P x + 1) 4 = M 22 (xb x) ∧ bd (M 22 (xb x)) 8 := h.Pc.2.2.2.2.1
theorem Rl.n14 (h : Rl x C M J) : C (tc_P x + 1) 7 = M 14 (xb x) ∧ bd (M 14 (xb x)) 24 := h.Pc.2.2.2.2.2.2.2.1
theorem Rl.n26 (h : Rl x C M J) : C (tc_P x + 1) 5 = M 26 (xb x) ∧ bd (M 26 (xb x)) 8 := h.Pc.2.2.2.2.2.1
theorem Rl.n34 (h : Rl x C M J) : C (tc_P x + 1) 6 = M 34 (xb x) ∧ bd (M 34 (xb x)) 8 := h.Pc.2.2.2.2.2.2.1
theorem Rl.scrap (h : Rl x C M J) {t : Nat} (ht : t < Int32.toNatClampNeg (M 0 74)) (hs : M 55 t = 0 ∨ M 55 t = 2) : Rl x (am_u2 C 82 t 3) (am_u2 M 55 t 3) J := by
  have hx := tc_P4 x
  have n74 := h.n74
  have n66 := h.nbB.cl (by omega)
  have n70 := h.nlB.cl (by omega)
  obtain ⟨h0, hb, hl, htt, hp, hm⟩ := h.H
  have fC : ∀ a b, a ≠ 82 → am_u2 C 82 t 3 a b = C a b := fun a b q => u2_c q
  have fM : ∀ a b, a ≠ 55 → am_u2 M 55 t 3 a b = M a b := fun a b q => u2_c q
  have s1 : ¬ M 55 t = 1 := by rcases hs with q | q <;> rw [q] <;> decide
  refine h.flr ⟨h0.fr (fun b => fC 41 b (by omega)) (fun a b _ => fM a b (by omega)), hb.fr n66 (fun a b _ => fC a b (by omega)) (fun a b _ => fM a b (by omega)), hl.fr n70 (fun a b _ => fC a b (by omega)) (fun a b _ => fM a b (by omega)), ?_, ?_, hm.fr (fun a b _ => fC a b (by omega)) (fun a b _ => fM a b (by omega))⟩ (h.V.fr n74 (fun a b _ => fC a b (by omega)) (fun a b _ => fM a b (by omega))) (fun a b _ => fC a b (by omega)) (fun a b _ => fM a b (by omega))
  · intro u hu
    rw [fM 0 74 (by omega)] at hu
    have g := htt u hu
    simp only [fun b => fC (150 + 2 * u) b (by omega), fun b => fM 54 b (by omega), fun b => fM 56 b (by omega), fun b => fM 57 b (by omega), fun b => fM 58 b (by omega), fun b => fM 59 b (by omega), fun b => fM 60 b (by omega), fun b => fM 61 b (by omega), fun b => fM 62 b (by omega), fun b => fM 11 b (by omega), fun b => fM 13 b (by omega), fM 0 65 (by omega)]
    by_cases e : u = t
    · subst e
      rw [u2_s, u2_s]
      refine ⟨g.1, rfl, g.2.2.1, g.2.2.2.1, g.2.2.2.2.1, g.2.2.2.2.2.1, g.2.2.2.2.2.2.1, g.2.2.2.2.2.2.2.1, g.2.2.2.2.2.2.2.2.1, ⟨3, by omega, rfl⟩, g.2.2.2.2.2.2.2.2.2.2.1, g.2.2.2.2.2.2.2.2.2.2.2.1, g.2.2.2.2.2.2.2.2.2.2.2.2.1, g.2.2.2.2.2.2.2.2.2.2.2.2.2.1, g.2.2.2.2.2.2.2.2.2.2.2.2.2.2.1, ?_⟩
      rcases g.2.2.2.2.2.2.2.2.2.2.2.2.2.2.2 with q | q
      · exact Or.inl ⟨q.1, q.2.1, q.2.2.1, Or.inr rfl⟩
      · refine Or.inr ⟨q.1, q.2.1, q.2.2.1, q.2.2.2.1, by decide, q.2.2.2.2.2.1, q.2.2.2.2.2.2.1, fun _ => ?_, fun w => absurd w (by decide)⟩
        exact q.2.2.2.2.2.2.2.1 (Or.inl (hs.resolve_left q.2.2.2.2.1))
    · rw [u2_p e, u2_p e]; exact g
  · unfold rl_Hp at hp ⊢
    simp only [fM 0 65 (by omega), fM 0 74 (by omega), fun b => fM 13 b (by omega), fun b => fM 20 b (by omega), fun b => fM 22 b (by omega), fun b => fM 54 b (by omega), fun b => fM 64 b (by omega), fun b => fM 65 b (by omega), fun b => fM 66 b (by omega)]
    refine ⟨fun p hp' => ?_, hp.2.1, fun u hu hu1 => ?_⟩
    · have g := hp.1 p hp'
      simp only [fun b => fC (270 + p) b (by omega)]
      refine ⟨g.1, g.2.1, g.2.2.1, g.2.2.2.1, ?_⟩
      rcases g.2.2.2.2 with q | q
      · exact Or.inl q
      · refine Or.inr ?_
        have hq : Int32.toNatClampNeg (M 65 p) < 60 := by have := q.2.1; omega
        rw [fC (150 + 2 * Int32.toNatClampNeg (M 65 p)) 6 (by omega)]
        have ne : Int32.toNatClampNeg (M 65 p) ≠ t := fun w => s1 (by rw [← w]; exact q.2.2.1)
        rw [u2_p ne]
        exact q
    · by_cases e : u = t
      · subst e; rw [u2_s] at hu1; exact absurd hu1 (by decide)
      · rw [u2_p e] at hu1; exact hp.2.2 u hu hu1
theorem k_scrap (h : Rl x C M J) (a : Int32) : Lk 129 246 [.int a] x C M Jc J := by
  have bad := fun e1 e2 => (⟨0, x, _, _, J, e1, e2, h.ref 3 (by omega)⟩ : Lk 129 246 [.int a] x C M Jc J)
  rcases h.ty (Jc := Jc) a 98 97 with ⟨e1, e2⟩ | ⟨t, ht, rfl, h60, e1, e2⟩
  · refine bad (by rw [b129_0, e1, am_call_s, am_toL, b129_8, if_pos rfl, crk _ _ _ _ 3 3 rfl (by omega), am_call_s, am_toL, b129_41]) ?_
    rw [b246_0, e2, am_call_s, am_toL, b246_5, if_pos rfl, mrk _ _ _ 3 3 rfl (by omega), am_call_s, am_toL, b246_32]
    exact if_pos (by decide)
  · have g := h.H.2.2.2.1 t ht
    have i60 : am_in (nI t) 60 := nI_in h60 (by omega)
    have ct : (nI t).toNatClampNeg = t := nI_clamp (by omega)
    have f1 := Eq.refl (am_G (am_ev 100) 129 [.ref 0, .int (nI t)] (C, Jc, (tc_R x), tc_S, 289, 11479))
    conv at f1 => rhs; rw [b129_0, e1, am_call_s, am_toL, b129_8, if_neg (by decide : ¬ (1 : Int32) = 0), if_pos i60]; (try simp only [ct]); rw [g.2.1]
    have f2 := Eq.refl (am_G (am_ev 100) 246 [.ref 0, .int (nI t)] (M, J, tm_R, tm_S, 77, 21637))
    conv at f2 => rhs; rw [b246_0, e2, am_call_s, am_toL, b246_5, if_neg (by decide : ¬ (1 : Int32) = 0), if_pos i60]; (try simp only [ct])
    by_cases h0 : M 55 t = 0
    · exact ⟨1, x, _, _, J, by rw [f1, if_pos h0, if_pos i60], by rw [f2, if_pos h0, if_pos i60], h.scrap ht (Or.inl h0)⟩
    · by_cases h2 : M 55 t = 2
      · exact ⟨1, x, _, _, J, by rw [f1, if_neg h0, if_pos i60, if_pos h2, if_pos i60], by rw [f2, if_neg h0, if_pos i60, if_pos h2, if_pos i60], h.scrap ht (Or.inr h2)⟩
      · refine bad (by rw [f1, if_neg h0, if_pos i60, if_neg h2, crk _ _ _ _ 3 3 rfl (by omega), am_call_s, am_toL, b129_41]) ?_
        rw [f2, if_neg h0, if_pos i60, if_neg h2, mrk _ _ _ 3 3 rfl (by omega), am_call_s, am_toL, b246_32]
        exact if_pos (by decide)
/-- the press with a mould: what the class has written down is what the model finds -/
theorem Rl.pw (h : Rl x C M J) {m : Nat} (hm : m < Int32.toNatClampNeg (M 22 (xb x))) (d : Nat) : am_G (am_ev (d + 1)) 231 [.ref 0, .int (nI m)] (M, J, tm_R, tm_S, 77, 21637) = some (some (.int (C 84 m)), (M, J, tm_R, tm_S, 77, 21637)) := by
  have b20 := h.n20.2.cl (by omega)
  have e20 := h.n20.2.eq (by omega)
  have b22 := h.n22.2.cl (by omega)
  have run := fnd_run (fun l => am_ev (d + 1) 231 2 [.ref 0, .int (nI m), .int (nI l)] [] (M, J, tm_R, tm_S, 77, 21637)) (fun l => decide (M 64 l = nI m)) (fun l => some (some (.int (nI l)), (M, J, tm_R, tm_S, 77, 21637))) (Int32.toNatClampNeg (M 20 (xb x))) (by
    intro l hl
    try dsimp only
    (rw [b231_2, if_pos h.inB]; (try simp only [h.cB]); rw [e20, if_neg (nI_ge hl (by omega)), if_pos (nI_in (by omega) (by omega))]; (try simp (disch := omega) only [nI_clamp]); rw [nI_1])
    by_cases q : M 64 l = nI m
    · rw [if_pos q, if_pos (decide_eq_true q)]
    · rw [if_neg q, if_neg (by rw [decide_eq_true_eq]; exact q)]) _ 0 (Nat.zero_add _)
  try dsimp only at run
  rw [b231_0, (show (0 : Int32) = nI 0 from rfl), run]
  obtain ⟨_, g⟩ := h.H.2.2.2.2.2
  obtain ⟨_, inj, _⟩ := h.H.2.2.2.2.1
  rcases g m hm with ⟨c1, c2⟩ | ⟨p, hp, c1, c2⟩
  · cases hf : fnd (fun l => decide (M 64 l = nI m)) (Int32.toNatClampNeg (M 20 (xb x))) 0 with
    | some j =>
      exfalso
      obtain ⟨_, q2, q3, _⟩ := fnd_some _ _ _ hf
      exact c2 j (by omega) (of_decide_eq_true q3)
    | none =>
      try dsimp only
      (rw [b231_2, if_pos h.inB]; (try simp only [h.cB]); rw [if_pos (by rw [← e20]; exact Int32.le_refl _), c1])
  · cases hf : fnd (fun l => decide (M 64 l = nI m)) (Int32.toNatClampNeg (M 20 (xb x))) 0 with
    | some j =>
      obtain ⟨_, q2, q3, q4⟩ := fnd_some _ _ _ hf
      have q3 := of_decide_eq_true q3
      have e : j = p := by
        rcases Nat.lt_trichotomy j p with w | w | w
        · rcases (inj j p w (by omega)).1 with r | r
          · rw [q3] at r; exact absurd r (nI_ne (by omega))
          · rw [q3, c2] at r; exact absurd rfl r
        · exact w
        · have r := q4 p (by omega) w
          rw [decide_eq_false_iff_not] at r
          exact absurd c2 r
      try dsimp only
      rw [c1, e]
    | none =>
      exfalso
      have r := fnd_none _ _ hf p (by omega) (by omega)
      rw [decide_eq_false_iff_not] at r
      exact r c2
theorem k_mould (h : Rl x C M J) (a w : Int32) : Lk 122 232 [.int a, .int w] x C M Jc J := by
  rcases h.kind (Jc := Jc) (q := 4) (by omega) a 98 97 with ⟨e1, e2⟩ | ⟨m, hm, rfl, hm8, e1, e2⟩
  · exact ⟨-1, x, C, M, J, by rw [b122_0, (show (4 : Int32) = nI 4 from rfl), e1, am_call_s, am_toL, b122_12, if_pos rfl], by rw [b232_0, (show (4 : Int32) = nI 4 from rfl), e2, am_call_s, am_toL, b232_6, if_pos rfl], h⟩
  · have hm8 : m < 8 := hm8
    have hm : m < Int32.toNatClampNeg (M 22 (xb x)) := hm
    have hx := xb1 x
    have go := h.P.2.2.2.2.2.2.2.1.1 m hm
    have gm := h.H.2.2.2.2.2.1 m hm8
    have i8 : am_in (nI m) 8 := nI_in hm8 (by omega)
    have cm : (nI m).toNatClampNeg = m := nI_clamp (by omega)
    have i16 : am_in (nI (8 * xb x + m)) 16 := nI_in (by omega) (by omega)
    have c16 : (nI (8 * xb x + m)).toNatClampNeg = 8 * xb x + m := nI_clamp (by omega)
    have f1 := Eq.refl (am_G (am_ev 100) 122 [.ref 0, .int (nI m), .int w] (C, Jc, (tc_R x), tc_S, 289, 11479))
    conv at f1 => rhs; rw [b122_0, (show (4 : Int32) = nI 4 from rfl), e1, am_call_s, am_toL, b122_12, if_neg (by decide : ¬ (1 : Int32) = 0)]; (try simp only [cm])
    have f2 := Eq.refl (am_G (am_ev 100) 232 [.ref 0, .int (nI m), .int w] (M, J, tm_R, tm_S, 77, 21637))
    conv at f2 => rhs; rw [b232_0, (show (4 : Int32) = nI 4 from rfl), e2, am_call_s, am_toL, b232_6, if_neg (by decide : ¬ (1 : Int32) = 0)]; (try simp only [cm])
    rcases sw4 w with rfl | rfl | rfl | rfl | hw
    · exact ⟨M 24 (8 * xb x + m), x, C, M, J, by rw [f1, if_pos (rfl : (0 : Int32) = 0), if_pos i8, go.1], by (rw [f2, if_pos (rfl : (0 : Int32) = 0), m_mould8, am_call_s, am_toL, b232_26, h.ix8, if_pos i16]; (try simp only [c16])), h⟩
    · exact ⟨C 84 m, x, C, M, J, by rw [f1, if_neg (by decide : ¬ (1 : Int32) = 0), if_pos (rfl : (1 : Int32) = 1), if_pos i8], by rw [f2, if_neg (by decide : ¬ (1 : Int32) = 0), if_pos (rfl : (1 : Int32) = 1), h.pw hm, am_call_s, am_toL, b232_40], h⟩
    · exact ⟨M 67 m, x, C, M, J, by rw [f1, if_neg (by decide : ¬ (2 : Int32) = 0), if_neg (by decide : ¬ (2 : Int32) = 1), if_pos (rfl : (2 : Int32) = 2), if_pos i8, gm.1], by rw [f2, if_neg (by decide : ¬ (2 : Int32) = 0), if_neg (by decide : ¬ (2 : Int32) = 1), if_pos (rfl : (2 : Int32) = 2), if_pos i8], h⟩
    · exact ⟨M 25 (8 * xb x + m), x, C, M, J, by rw [f1, if_neg (by decide : ¬ (3 : Int32) = 0), if_neg (by decide : ¬ (3 : Int32) = 1), if_neg (by decide : ¬ (3 : Int32) = 2), if_pos (rfl : (3 : Int32) = 3), if_pos i8, go.2.1], by (rw [f2, if_neg (by decide : ¬ (3 : Int32) = 0), if_neg (by decide : ¬ (3 : Int32) = 1), if_neg (by decide : ¬ (3 : Int32) = 2), if_pos (rfl : (3 : Int32) = 3), m_mould8, am_call_s, am_toL, b232_71, h.ix8, if_pos i16]; (try simp only [c16])), h⟩
    · exact ⟨-1, x, C, M, J, by rw [f1, if_neg hw.1, if_neg hw.2.1, if_neg hw.2.2.1, if_neg hw.2.2.2], by rw [f2, if_neg hw.1, if_neg hw.2.1, if_neg hw.2.2.1, if_neg hw.2.2.2], h⟩
theorem Rl.clean (h : Rl x C M J) {m : Nat} (hm : m < 8) : Rl x (am_u2 C 85 m 0) (am_u2 M 67 m 0) J := by
  have hx := tc_P4 x
  have n74 := h.n74
  have n66 := h.nbB.cl (by omega)
  have n70 := h.nlB.cl (by omega)
  obtain ⟨h0, hb, hl, htt, hp, hmm⟩ := h.H
  have fC : ∀ a b, a ≠ 85 → am_u2 C 85 m 0 a b = C a b := fun a b q => u2_c q
  have fM : ∀ a b, a ≠ 67 → am_u2 M 67 m 0 a b = M a b := fun a b q => u2_c q
  refine h.flr ⟨h0.fr (fun b => fC 41 b (by omega)) (fun a b _ => fM a b (by omega)), hb.fr n66 (fun a b _ => fC a b (by omega)) (fun a b _ => fM a b (by omega)), hl.fr n70 (fun a b _ => fC a b (by omega)) (fun a b _ => fM a b (by omega)), htt.fr n74 (fun a b _ => fC a b (by omega)) (fun a b _ => fM a b (by omega)), hp.fr n74 (fun a b _ => fC a b (by omega)) (fun a b _ => fM a b (by omega)), ?_⟩ (h.V.fr n74 (fun a b _ => fC a b (by omega)) (fun a b _ => fM a b (by omega))) (fun a b _ => fC a b (by omega)) (fun a b _ => fM a b (by omega))
  unfold rl_Hm at hmm ⊢
  simp only [fun b => fM 64 b (by omega), fun b => fM 20 b (by omega), fun b => fM 22 b (by omega), fun b => fC 84 b (by omega)]
  refine ⟨fun k hk => ?_, hmm.2⟩
  by_cases e : k = m
  · subst e; rw [u2_s, u2_s]; exact ⟨rfl, ⟨0, by omega, rfl⟩⟩
  · rw [u2_p e, u2_p e]; exact hmm.1 k hk
theorem k_clean (h : Rl x C M J) (a : Int32) : Lk 128 245 [.int a] x C M Jc J := by
  have bad := fun e1 e2 => (⟨-1, x, _, _, J, e1, e2, h.ref 3 (by omega)⟩ : Lk 128 245 [.int a] x C M Jc J)
  rcases h.kind (Jc := Jc) (q := 4) (by omega) a 98 97 with ⟨e1, e2⟩ | ⟨m, hm, rfl, hm8, e1, e2⟩
  · exact bad (by rw [b128_0, (show (4 : Int32) = nI 4 from rfl), e1, am_call_s, am_toL, b128_12, if_pos rfl, crk _ _ _ _ 3 3 rfl (by omega), am_call_s, am_toL, b128_31]) (by rw [b245_0, (show (4 : Int32) = nI 4 from rfl), e2, am_call_s, am_toL, b245_6, if_pos rfl, mrk _ _ _ 3 3 rfl (by omega), am_call_s, am_toL, b245_14])
  · have hm8 : m < 8 := hm8
    have hm : m < Int32.toNatClampNeg (M 22 (xb x)) := hm
    have b20 := h.n20.2.cl (by omega)
    have i8 : am_in (nI m) 8 := nI_in hm8 (by omega)
    have cm : (nI m).toNatClampNeg = m := nI_clamp (by omega)
    have gm := h.H.2.2.2.2.2.1 m hm8
    have f1 := Eq.refl (am_G (am_ev 100) 128 [.ref 0, .int (nI m)] (C, Jc, (tc_R x), tc_S, 289, 11479))
    conv at f1 => rhs; rw [b128_0, (show (4 : Int32) = nI 4 from rfl), e1, am_call_s, am_toL, b128_12, if_neg (by decide : ¬ (1 : Int32) = 0), b30_0, if_pos i8]; (try simp only [cm])
    have f2 := Eq.refl (am_G (am_ev 100) 245 [.ref 0, .int (nI m)] (M, J, tm_R, tm_S, 77, 21637))
    conv at f2 => rhs; rw [b245_0, (show (4 : Int32) = nI 4 from rfl), e2, am_call_s, am_toL, b245_6, if_neg (by decide : ¬ (1 : Int32) = 0), h.pw hm, am_call_s, am_toL, b245_20]
    have good : am_ev 100 245 42 [.ref 0, .int (nI m), .int (C 84 m), am_un] [] (M, J, tm_R, tm_S, 77, 21637) = some (some (.int (M 67 m)), (am_u2 M 67 m 0, J, tm_R, tm_S, 77, 21637)) := by
      refine (b245_42 99 M J (nI m) (some (.inr (C 84 m))) am_un).trans ?_
      (rw [if_pos i8, if_pos i8]; (try simp only [cm]))
    rcases h.H.2.2.2.2.2.2 m hm with ⟨c1, c2⟩ | ⟨p, hp, c1, c2⟩
    · exact ⟨M 67 m, x, _, _, J, by (rw [f1, if_pos c1, am_call_s, am_toL, b128_23, if_pos rfl, if_pos i8, if_pos i8]; (try simp only [cm]); rw [gm.1]), by rw [f2, if_pos c1, good], h.clean hm8⟩
    · have hp4 : p < 4 := by omega
      have gp := h.H.2.2.2.2.1.1 p hp4
      have n1 : ¬ C 84 m = -1 := by rw [c1]; exact nI_ne (by omega)
      have ip : am_in (C 84 m) 4 := by rw [c1]; exact nI_in hp4 (by omega)
      have cp : (C 84 m).toNatClampNeg = p := by rw [c1]; exact nI_clamp (by omega)
      by_cases q : M 65 p = -1
      · exact ⟨M 67 m, x, _, _, J, by (rw [f1, if_neg n1, if_pos ip]; (try simp only [cp]); rw [if_pos (tp_k hp4), gp.2.1, if_pos q, am_call_s, am_toL, b128_23, if_pos rfl, if_pos i8, if_pos i8]; (try simp only [cm]); rw [gm.1]), by (rw [f2, if_neg n1, if_pos ip]; (try simp only [cp]); rw [if_pos q, good]), h.clean hm8⟩
      · exact bad (by (rw [f1, if_neg n1, if_pos ip]; (try simp only [cp]); rw [if_pos (tp_k hp4), gp.2.1, if_neg q, am_call_s, am_toL, b128_23, if_neg (by decide : ¬ (1 : Int32) = 0), crk _ _ _ _ 3 3 rfl (by omega), am_call_s, am_toL, b128_31])) (by (rw [f2, if_neg n1, if_pos ip]; (try simp only [cp]); rw [if_neg q, mrk _ _ _ 3 3 rfl (by omega), am_call_s, am_toL, b245_41]))
end API5
