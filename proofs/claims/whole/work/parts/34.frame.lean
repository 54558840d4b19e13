/-! FRAMES: what a group of the relation does not read may change -/
section FRM
variable {x y : Bool} {C C' M M' : tI} {J J' : tJ}
theorem rl_T.fr (h : rl_T C M) (hC : ∀ a b, a = 3 ∨ (a = 1 ∧ b = 2) → C' a b = C a b) (hM : ∀ a b, a = 1 ∨ (a = 0 ∧ b = 1) → M' a b = M a b) : rl_T C' M' := by
  unfold rl_T at h ⊢
  rw [hC 1 2 (by omega), hM 0 1 (by omega)]
  refine ⟨h.1, h.2.1, fun j hj => ?_⟩
  rw [hC 3 j (by omega), hM 1 j (by omega)]
  exact h.2.2 j hj
theorem rl_F.fr (h : rl_F C M) (hC : ∀ b, b = 7 ∨ b = 8 → C' 1 b = C 1 b) (hM : ∀ b, b = 10 ∨ b = 11 → M' 0 b = M 0 b) : rl_F C' M' := by
  unfold rl_F at h ⊢
  rw [hC 7 (by omega), hC 8 (by omega), hM 10 (by omega), hM 11 (by omega)]
  exact h
theorem rl_N.fr (h : rl_N C M) (hC : ∀ b, C' 288 b = C 288 b) (hM : ∀ b, M' 45 b = M 45 b) : rl_N C' M' := by
  intro j hj
  rw [hC, hM]; exact h j hj
theorem rl_W.fr (h : rl_W C M) (hC : C' 0 8 = C 0 8) (hM : M' 0 91 = M 0 91) : rl_W C' M' := by
  unfold rl_W at h ⊢; rw [hC, hM]; exact h
theorem rl_O.fr (h : rl_O C M) (hC : ∀ a b, a = 287 ∨ (a = 0 ∧ b = 7) → C' a b = C a b) (hM : ∀ a b, a = 76 ∨ (a = 0 ∧ b = 102) → M' a b = M a b) : rl_O C' M' := by
  unfold rl_O at h ⊢
  rw [hC 0 7 (by omega), hM 0 102 (by omega)]
  refine ⟨h.1, h.2.1, fun j hj => ?_⟩
  rw [hC 287 j (by omega), hM 76 j (by omega)]
  exact h.2.2 j hj
theorem rl_V.fr (h : rl_V C M) (hn : Int32.toNatClampNeg (M 0 74) ≤ 60) (hC : ∀ a b, a = 286 ∨ (150 < a ∧ a < 150 + 2 * Int32.toNatClampNeg (M 0 74) ∧ a % 2 = 1) → C' a b = C a b) (hM : ∀ a b, a = 63 ∨ (a = 0 ∧ b = 74) → M' a b = M a b) : rl_V C' M' := by
  unfold rl_V at h ⊢
  rw [hM 0 74 (by omega)]
  refine ⟨fun i hi => ?_, fun t i ht hi => ?_, fun t i ht hi => ?_⟩
  · rw [hC 286 i (by omega), hM 63 _ (by omega)]; exact h.1 i hi
  · rw [hC _ i (by omega), hM 63 _ (by omega)]; exact h.2.1 t i ht hi
  · rw [hM 63 _ (by omega)]; exact h.2.2 t i ht hi
theorem rl_Ow.fr (h : rl_Ow C) (hC : ∀ b, C' 2 b = C 2 b) : rl_Ow C' := by
  intro j hj; rw [hC]; exact h j hj
theorem ndS_fr (hM : ∀ a b, 15 ≤ a ∧ a ≤ 17 → M' a b = M a b) (b s q : Nat) : ∀ n, ndS M' b s q n = ndS M b s q n := by
  intro n
  induction n with
  | zero => rfl
  | succ n ih => unfold ndS nd1; rw [ih, hM 15 _ (by omega), hM 16 _ (by omega), hM 17 _ (by omega)]
theorem rl_P.fr (h : rl_P y C M J) (hC : ∀ a b, tc_P y ≤ a ∧ a ≤ tc_P y + 35 ∧ a ≠ tc_P y + 33 → C' a b = C a b) (hM : ∀ a b, 2 ≤ a ∧ a ≤ 38 → M' a b = M a b) (hJ : ∀ a b, 3 ≤ a ∧ a ≤ 23 → J' a b = J a b) : rl_P y C' M' J' := by
  obtain ⟨hc, hn, hm, hp, hs, hd, hg, ho, hz, hl⟩ := h
  have b6 := hc.2.1.2.cl (by omega)
  have b11 := hc.2.2.1.2.cl (by omega)
  have b2 := hc.1.2.cl (by omega)
  have b20 := hc.2.2.2.1.2.cl (by omega)
  have b22 := hc.2.2.2.2.1.2.cl (by omega)
  have b26 := hc.2.2.2.2.2.1.2.cl (by omega)
  have b34 := hc.2.2.2.2.2.2.1.2.cl (by omega)
  refine ⟨?_, ?_, ?_, ?_, ?_, ?_, ?_, ?_, ?_, ?_⟩
  · unfold rl_Pc at hc ⊢
    rw [hM 2 _ (by omega), hM 6 _ (by omega), hM 11 _ (by omega), hM 20 _ (by omega), hM 22 _ (by omega), hM 26 _ (by omega), hM 34 _ (by omega), hM 14 _ (by omega), hM 18 _ (by omega)]
    simp only [fun b => hC (tc_P y + 1) b (by omega)]
    exact hc
  · unfold rl_Pn at hn ⊢
    rw [hM 2 _ (by omega), hM 6 _ (by omega), hM 11 _ (by omega), hM 20 _ (by omega), hM 22 _ (by omega)]
    simp only [fun b => hC (tc_P y + 3) b (by omega), fun b => hC (tc_P y + 4) b (by omega), fun b => hC (tc_P y + 5) b (by omega), fun b => hC (tc_P y + 6) b (by omega), fun b => hC (tc_P y + 7) b (by omega), fun b => hJ 3 b (by omega), fun b => hJ 7 b (by omega), fun b => hJ 12 b (by omega), fun b => hJ 21 b (by omega), fun b => hJ 23 b (by omega)]
    exact hn
  · unfold rl_Pm at hm ⊢
    simp only [fun b => hM 2 b (by omega), fun b => hM 4 b (by omega), fun b => hM 5 b (by omega), fun b => hC (tc_P y + 8) b (by omega), fun b => hC (tc_P y + 9) b (by omega)]
    exact hm
  · unfold rl_Pp at hp ⊢
    simp only [fun b => hM 2 b (by omega), fun b => hM 6 b (by omega), fun b => hM 8 b (by omega), fun b => hM 9 b (by omega), fun b => hM 10 b (by omega), fun b => hC (tc_P y + 10) b (by omega), fun b => hC (tc_P y + 11) b (by omega), fun b => hC (tc_P y + 12) b (by omega)]
    exact hp
  · unfold rl_Ps at hs ⊢
    simp only [fun b => hM 11 b (by omega), fun b => hM 13 b (by omega), fun b => hC (tc_P y + 13) b (by omega)]
    exact hs
  · unfold rl_Pd at hd ⊢
    simp only [fun b => hM 6 b (by omega), fun b => hM 11 b (by omega), fun b => hM 14 b (by omega), fun b => hM 15 b (by omega), fun b => hM 16 b (by omega), fun b => hM 17 b (by omega)]
    refine ⟨fun s q hs hq => ?_, hd.2⟩
    rw [hC _ _ (by omega), ndS_fr (fun a b hab => hM a b (by omega))]
    exact hd.1 s q hs hq
  · unfold rl_Pg at hg ⊢
    simp only [fun b => hM 11 b (by omega), fun b => hM 19 b (by omega)]
    refine ⟨fun a c ha hcc hh h0 => ?_, fun a c ha hcc hh => ?_, hg.2.2⟩
    · rw [hC _ _ (by omega)]; exact hg.1 a c ha hcc hh h0
    · rw [hC _ _ (by omega)]; exact hg.2.1 a c ha hcc hh
  · unfold rl_Po at ho ⊢
    simp only [fun b => hM 22 b (by omega), fun b => hM 24 b (by omega), fun b => hM 25 b (by omega), fun b => hM 26 b (by omega), fun b => hM 27 b (by omega), fun b => hM 28 b (by omega), fun b => hM 29 b (by omega), fun b => hM 11 b (by omega), fun b => hC (tc_P y + 28) b (by omega), fun b => hC (tc_P y + 29) b (by omega), fun b => hC (tc_P y + 30) b (by omega), fun b => hC (tc_P y + 31) b (by omega), fun b => hC (tc_P y + 32) b (by omega)]
    exact ho
  · unfold rl_Pz at hz ⊢
    simp only [fun b => hM 6 b (by omega), fun b => hM 11 b (by omega), fun b => hM 30 b (by omega), fun b => hM 31 b (by omega), fun b => hM 32 b (by omega), fun b => hM 33 b (by omega), fun b => hC (tc_P y) b (by omega)]
    exact hz
  · unfold rl_L l_atC l_atM at hl ⊢
    simp only [fun b => hM 34 b (by omega), fun b => hM 35 b (by omega), fun b => hM 36 b (by omega), fun b => hM 37 b (by omega), fun b => hM 38 b (by omega), fun b => hC (tc_P y + 34) b (by omega), fun b => hC (tc_P y + 35) b (by omega)]
    exact hl
theorem rl_H0.fr (h : rl_H0 x C M) (hC : ∀ b, C' 41 b = C 41 b) (hM : ∀ a b, (a = 0 ∧ (b = 65 ∨ b = 66 ∨ b = 70 ∨ b = 74 ∨ b = 89 ∨ b = 90)) ∨ a = 11 → M' a b = M a b) : rl_H0 x C' M' := by
  unfold rl_H0 at h ⊢
  simp only [hC, hM 0 65 (by omega), hM 0 66 (by omega), hM 0 70 (by omega), hM 0 74 (by omega), hM 0 89 (by omega), hM 0 90 (by omega), fun b => hM 11 b (by omega)]
  exact h
theorem rl_Hb.fr (h : rl_Hb x C M) (n66 : Int32.toNatClampNeg (M 0 66) ≤ 24) (hC : ∀ a b, 86 ≤ a ∧ a < 110 → C' a b = C a b) (hM : ∀ a b, (a = 0 ∧ (b = 65 ∨ b = 66)) ∨ a = 2 ∨ (48 ≤ a ∧ a ≤ 50) → M' a b = M a b) : rl_Hb x C' M' := by
  intro b hb'
  rw [hM 0 66 (by omega)] at hb'
  have := h b hb'
  rw [hC _ 0 (by omega), hC _ 1 (by omega), hC _ 2 (by omega), hM 48 b (by omega), hM 49 b (by omega), hM 50 b (by omega), hM 2 _ (by omega), hM 0 65 (by omega)]
  exact this
theorem rl_Hl.fr (h : rl_Hl x C M) (n70 : Int32.toNatClampNeg (M 0 70) ≤ 40) (hC : ∀ a b, 110 ≤ a ∧ a < 150 → C' a b = C a b) (hM : ∀ a b, (a = 0 ∧ (b = 70 ∨ b = 66)) ∨ a = 6 ∨ (51 ≤ a ∧ a ≤ 53) → M' a b = M a b) : rl_Hl x C' M' := by
  intro l hl'
  rw [hM 0 70 (by omega)] at hl'
  have := h l hl'
  rw [hC _ 0 (by omega), hC _ 1 (by omega), hC _ 2 (by omega), hM 51 l (by omega), hM 52 l (by omega), hM 53 l (by omega), hM 6 _ (by omega), hM 0 66 (by omega)]
  exact this
theorem rl_Ht.fr (h : rl_Ht x C M) (n74 : Int32.toNatClampNeg (M 0 74) ≤ 60) (hC : ∀ a b, (a = 82 ∧ b < Int32.toNatClampNeg (M 0 74)) ∨ (150 ≤ a ∧ a < 150 + 2 * Int32.toNatClampNeg (M 0 74)) → C' a b = C a b) (hM : ∀ a b, (a = 0 ∧ (b = 65 ∨ b = 74)) ∨ a = 11 ∨ a = 13 ∨ (54 ≤ a ∧ a ≤ 62) → M' a b = M a b) : rl_Ht x C' M' := by
  intro t ht'
  rw [hM 0 74 (by omega)] at ht'
  have := h t ht'
  simp only [fun b => hC (150 + 2 * t) b (by omega), hC 82 t (by omega), hM 54 t (by omega), hM 55 t (by omega), hM 56 t (by omega), hM 57 t (by omega), hM 58 t (by omega), hM 59 t (by omega), hM 60 t (by omega), hM 61 t (by omega), hM 62 t (by omega), fun b => hM 11 b (by omega), hM 0 65 (by omega), fun b => hM 13 b (by omega)]
  exact this
theorem rl_Hp.fr (h : rl_Hp x C M) (n74 : Int32.toNatClampNeg (M 0 74) ≤ 60) (hC : ∀ a b, (270 ≤ a ∧ a < 274) ∨ (150 ≤ a ∧ a < 150 + 2 * Int32.toNatClampNeg (M 0 74) ∧ b = 6) → C' a b = C a b) (hM : ∀ a b, (a = 0 ∧ (b = 65 ∨ b = 74)) ∨ a = 13 ∨ a = 20 ∨ a = 22 ∨ a = 54 ∨ a = 55 ∨ (64 ≤ a ∧ a ≤ 66) → M' a b = M a b) : rl_Hp x C' M' := by
  unfold rl_Hp at h ⊢
  simp only [hM 0 65 (by omega), hM 0 74 (by omega), fun b => hM 13 b (by omega), fun b => hM 20 b (by omega), fun b => hM 22 b (by omega), fun b => hM 54 b (by omega), fun b => hM 55 b (by omega), fun b => hM 64 b (by omega), fun b => hM 65 b (by omega), fun b => hM 66 b (by omega)]
  refine ⟨fun p hp' => ?_, h.2⟩
  have := h.1 p hp'
  simp only [fun b => hC (270 + p) b (by omega)]
  refine ⟨this.1, this.2.1, this.2.2.1, this.2.2.2.1, ?_⟩
  rcases this.2.2.2.2 with q | q
  · exact Or.inl q
  · refine Or.inr ?_
    have hq : Int32.toNatClampNeg (M 65 p) < 60 := by have := q.2.1; omega
    rw [hC (150 + 2 * Int32.toNatClampNeg (M 65 p)) 6 (by omega)]
    exact q
theorem rl_Hm.fr (h : rl_Hm x C M) (hC : ∀ a b, a = 84 ∨ a = 85 → C' a b = C a b) (hM : ∀ a b, a = 20 ∨ a = 22 ∨ a = 64 ∨ a = 67 → M' a b = M a b) : rl_Hm x C' M' := by
  unfold rl_Hm at h ⊢
  simp only [fun b => hM 67 b (by omega), fun b => hM 64 b (by omega), fun b => hM 20 b (by omega), fun b => hM 22 b (by omega), fun b => hC 84 b (by omega), fun b => hC 85 b (by omega)]
  exact h
theorem rl_H.fr (h : rl_H x C M) (hC : ∀ a b, a = 41 ∨ (82 ≤ a ∧ a ≤ 273) → C' a b = C a b) (hM : ∀ a b, (a = 0 ∧ (b = 65 ∨ b = 66 ∨ b = 70 ∨ b = 74 ∨ b = 89 ∨ b = 90)) ∨ (2 ≤ a ∧ a ≤ 38) ∨ (48 ≤ a ∧ a ≤ 67 ∧ a ≠ 63) → M' a b = M a b) : rl_H x C' M' := by
  obtain ⟨h0, hb, hl, ht, hp, hm⟩ := h
  have n66 := h0.2.2.2.2.2.2.1.cl (by omega)
  have n70 := h0.2.2.2.2.2.2.2.2.1.cl (by omega)
  have n74 := h0.2.2.2.2.2.2.2.2.2.2.cl (by omega)
  exact ⟨h0.fr (fun b => hC 41 b (by omega)) (fun a b _ => hM a b (by omega)), hb.fr n66 (fun a b _ => hC a b (by omega)) (fun a b _ => hM a b (by omega)), hl.fr n70 (fun a b _ => hC a b (by omega)) (fun a b _ => hM a b (by omega)), ht.fr n74 (fun a b _ => hC a b (by omega)) (fun a b _ => hM a b (by omega)), hp.fr n74 (fun a b _ => hC a b (by omega)) (fun a b _ => hM a b (by omega)), hm.fr (fun a b _ => hC a b (by omega)) (fun a b _ => hM a b (by omega))⟩
/-- a refusal is counted on both sides -/
theorem Rl.n74 (h : Rl x C M J) : Int32.toNatClampNeg (M 0 74) ≤ 60 := h.2.2.2.2.2.2.2.2.2.1.2.2.2.2.2.2.2.2.2.2.cl (by omega)
theorem Rl.ref (h : Rl x C M J) (k : Nat) (hk : k < 6) : Rl x (am_u2 C 288 k (C 288 k + 1)) (am_u2 M 45 k (M 45 k + 1)) J := by
  have n74 := h.n74
  have hx := tc_P4 x
  obtain ⟨hB, hT, hF, hN, hW, hO, hV, hOw, hP, hH⟩ := h
  refine ⟨?_, ?_, ?_, ?_, ?_, ?_, ?_, ?_, ?_, ?_⟩
  · rw [u2_c (by omega)]; exact hB
  · exact hT.fr (fun a b _ => u2_c (by omega)) (fun a b _ => u2_c (by omega))
  · exact hF.fr (fun b _ => u2_c (by omega)) (fun b _ => u2_c (by omega))
  · intro j hj
    by_cases e : j = k
    · subst e; rw [u2_s, u2_s, hN j hj]
    · rw [u2_p e, u2_p e]; exact hN j hj
  · exact hW.fr (u2_c (by omega)) (u2_c (by omega))
  · exact hO.fr (fun a b _ => u2_c (by omega)) (fun a b _ => u2_c (by omega))
  · exact hV.fr n74 (fun a b _ => u2_c (by omega)) (fun a b _ => u2_c (by omega))
  · exact hOw.fr (fun b => u2_c (by omega))
  · exact hP.fr (fun a b _ => u2_c (by omega)) (fun a b _ => u2_c (by omega)) (fun _ _ _ => rfl)
  · exact hH.fr (fun a b _ => u2_c (by omega)) (fun a b _ => u2_c (by omega))
/-- another floor -/
theorem Rl.flr (h : Rl x C M J) (hH : rl_H x C' M') (hV : rl_V C' M') (hC : ∀ a b, a ≤ 3 ∨ (tc_P x ≤ a ∧ a ≤ tc_P x + 35 ∧ a ≠ tc_P x + 33) ∨ a = 287 ∨ a = 288 → C' a b = C a b) (hM : ∀ a b, (a = 0 ∧ (b ≤ 12 ∨ b = 91 ∨ b = 102)) ∨ (1 ≤ a ∧ a ≤ 38) ∨ a = 45 ∨ a = 76 → M' a b = M a b) : Rl x C' M' J := by
  obtain ⟨hB, hT, hF, hN, hW, hO, _, hOw, hP, _⟩ := h
  refine ⟨?_, ?_, ?_, ?_, ?_, ?_, hV, ?_, ?_, hH⟩
  · rw [hM 0 12 (by omega)]; exact hB
  · exact hT.fr (fun a b _ => hC a b (by omega)) (fun a b _ => hM a b (by omega))
  · exact hF.fr (fun b _ => hC 1 b (by omega)) (fun b _ => hM 0 b (by omega))
  · exact hN.fr (fun b => hC _ b (by omega)) (fun b => hM _ b (by omega))
  · exact hW.fr (hC _ _ (by omega)) (hM _ _ (by omega))
  · exact hO.fr (fun a b _ => hC a b (by omega)) (fun a b _ => hM a b (by omega))
  · exact hOw.fr (fun b => hC _ b (by omega))
  · exact hP.fr (fun a b _ => hC a b (by omega)) (fun a b _ => hM a b (by omega)) (fun _ _ _ => rfl)
/-- only scratch cells change -/
theorem Rl.scr (h : Rl x C M J) (hC : ∀ a b, a ≤ 3 ∨ (tc_P x ≤ a ∧ a ≤ tc_P x + 35 ∧ a ≠ tc_P x + 33) ∨ a = 41 ∨ (82 ≤ a ∧ a ≤ 273) ∨ 286 ≤ a → C' a b = C a b) (hM : ∀ a b, (a = 0 ∧ (b ≤ 12 ∨ b = 65 ∨ b = 66 ∨ b = 70 ∨ b = 74 ∨ b = 89 ∨ b = 90 ∨ b = 91 ∨ b = 102)) ∨ (1 ≤ a ∧ a ≤ 38) ∨ a = 45 ∨ (48 ≤ a ∧ a ≤ 67) ∨ a = 76 → M' a b = M a b) (hJ : ∀ a b, 3 ≤ a ∧ a ≤ 23 → J' a b = J a b) : Rl x C' M' J' := by
  have n74 := h.n74
  obtain ⟨hB, hT, hF, hN, hW, hO, hV, hOw, hP, hH⟩ := h
  refine ⟨?_, ?_, ?_, ?_, ?_, ?_, ?_, ?_, ?_, ?_⟩
  · rw [hM 0 12 (by omega)]; exact hB
  · exact hT.fr (fun a b _ => hC a b (by omega)) (fun a b _ => hM a b (by omega))
  · exact hF.fr (fun b _ => hC 1 b (by omega)) (fun b _ => hM 0 b (by omega))
  · exact hN.fr (fun b => hC _ b (by omega)) (fun b => hM _ b (by omega))
  · exact hW.fr (hC _ _ (by omega)) (hM _ _ (by omega))
  · exact hO.fr (fun a b _ => hC a b (by omega)) (fun a b _ => hM a b (by omega))
  · exact hV.fr n74 (fun a b _ => hC a b (by omega)) (fun a b _ => hM a b (by omega))
  · exact hOw.fr (fun b => hC _ b (by omega))
  · exact hP.fr (fun a b _ => hC a b (by omega)) (fun a b _ => hM a b (by omega)) hJ
  · exact hH.fr (fun a b _ => hC a b (by omega)) (fun a b _ => hM a b (by omega))
end FRM
