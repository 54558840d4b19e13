/-! WORKS: the floor begins anew; the call -/
section WRK
variable {x : Bool} {C M C' M' : tI} {J J' Jc : tJ}
set_option maxRecDepth 100000 in
theorem b9_w (d : Nat) (I : tI) (J : tJ) (x : Bool) : am_G (am_ev (d + 1)) 9 [.ref 41, .ref (tc_P (!x))] (I, J, (am_u2 (tc_R x) 1 9 (some (tc_P x))), tc_S, 289, 11479) = am_ev (d + 1) 9 37 [.ref 41, .ref (tc_P (!x)), .int 0] [] ((am_u2 (am_u2 (am_u2 (am_u2 (am_u2 (am_u2 I 41 1 0) 41 2 (-1)) 41 3 0) 41 5 0) 41 7 0) 41 10 0), J, tc_R (!x), tc_S, 289, 11479) := by
  rw [← tc_Rn x]
  cases x <;> exact (am_G_eq (Nat.le_of_ble_eq_true rfl)).trans ((am_blk (fun pc => Nat.beq pc 37 || Nat.beq pc 76 || Nat.beq pc 84) 25 d 9 0 _ _ _).trans rfl)
def rsP (C : tI) (l : Nat) (C' : tI) : Prop := (∀ p, p < l → C' (270 + p) 0 = -1 ∧ C' (270 + p) 1 = -1) ∧ ∀ a b, ¬ (270 ≤ a ∧ a ≤ 273) → C' a b = C a b
theorem c_rsl (y b : Bool) (d : Nat) : ∀ m l (C' : tI), l + m = 4 → rsP C l C' → ∃ C'', am_ev (d + 1) 9 37 [.ref 41, .ref (tc_P b), .int (nI l)] [] (C', Jc, (tc_R y), tc_S, 289, 11479) = am_ev (d + 1) 9 37 [.ref 41, .ref (tc_P b), .int (nI 4)] [] (C'', Jc, (tc_R y), tc_S, 289, 11479) ∧ rsP C 4 C'' := by
  intro m
  induction m with
  | zero =>
    intro l C' hl hP
    obtain rfl : l = 4 := by omega
    exact ⟨C', rfl, hP⟩
  | succ m ih =>
    intro l C' hl hP
    obtain ⟨p1, p2⟩ := hP
    have ck : Int32.toNatClampNeg (nI l) = l := nI_clamp (by omega)
    have hi : am_in (nI l) 4 := nI_in (by omega) (by omega)
    have hk := tp_k (k := l) (by omega)
    have key : am_ev (d + 1) 9 37 [.ref 41, .ref (tc_P b), .int (nI l)] [] (C', Jc, (tc_R y), tc_S, 289, 11479) = am_ev (d + 1) 9 37 [.ref 41, .ref (tc_P b), .int (nI (l + 1))] [] (am_u2 (am_u2 C' (270 + l) 0 (-1)) (270 + l) 1 (-1), Jc, (tc_R y), tc_S, 289, 11479) := by
      rw [b9_37, if_neg (geL (c := 4) 4 rfl (by omega) (by omega)), if_pos hi]
      simp only [ck]
      rw [if_pos hk, if_pos hi, if_pos hk, nI_1]
    rw [key]
    refine ih (l + 1) _ (by omega) ⟨fun p hp => ?_, fun a b hab => ?_⟩
    · by_cases z : p = l
      · subst z
        exact ⟨by rw [u2_p (by omega), u2_s], u2_s⟩
      · rw [u2_c (by omega), u2_c (by omega), u2_c (by omega), u2_c (by omega)]; exact p1 p (by omega)
    · rw [u2_c (by omega), u2_c (by omega)]; exact p2 a b hab
theorem c_rst (x : Bool) (d : Nat) : ∃ C', am_G (am_ev (d + 2)) 9 [.ref 41, .ref (tc_P (!x))] (C, Jc, (am_u2 (tc_R x) 1 9 (some (tc_P x))), tc_S, 289, 11479) = some (none, (C', Jc, (tc_R !x), tc_S, 289, 11479)) ∧ C' 41 1 = 0 ∧ C' 41 2 = -1 ∧ C' 41 3 = 0 ∧ C' 41 5 = 0 ∧ C' 41 7 = 0 ∧ C' 41 10 = 0 ∧ (∀ p, p < 4 → C' (270 + p) 0 = -1 ∧ C' (270 + p) 1 = -1) ∧ (∀ m, m < 8 → C' 84 m = -1 ∧ C' 85 m = 0) ∧ ∀ a b, a ≠ 41 → a ≠ 84 → a ≠ 85 → ¬ (270 ≤ a ∧ a ≤ 273) → C' a b = C a b := by
  obtain ⟨D, e1, e2, e3⟩ := c_rsl (C := (am_u2 (am_u2 (am_u2 (am_u2 (am_u2 (am_u2 C 41 1 0) 41 2 (-1)) 41 3 0) 41 5 0) 41 7 0) 41 10 0)) (Jc := Jc) (!x) (!x) (d + 1) 4 0 _ (by omega) ⟨fun p hp => by omega, fun _ _ _ => rfl⟩
  have s84 : tc_S 84 = (20, 8) := by decide +kernel
  have s85 : tc_S 85 = (20, 8) := by decide +kernel
  have f1 := c_fill d D Jc (!x) (-1 : Int32) s84 (by omega) (by omega)
  have f2 := c_fill d (fillC D 84 8 (-1)) Jc (!x) (0 : Int32) s85 (by omega) (by omega)
  have f41 : ∀ b, fillC (fillC D 84 8 (-1)) 85 8 0 41 b = (am_u2 (am_u2 (am_u2 (am_u2 (am_u2 (am_u2 C 41 1 0) 41 2 (-1)) 41 3 0) 41 5 0) 41 7 0) 41 10 0) 41 b := fun b => by
    unfold fillC
    rw [if_neg (by omega), if_neg (by omega)]; exact e3 41 b (by omega)
  refine ⟨fillC (fillC D 84 8 (-1)) 85 8 0, ?_, ?_, ?_, ?_, ?_, ?_, ?_, fun p hp => ?_, fun m hm => ?_, fun a b h1 h2 h3 h4 => ?_⟩
  · rw [b9_w]
    refine e1.trans ?_
    rw [b9_37, if_pos (by decide : (4 : Int32) ≤ nI 4), f1, am_call_s, am_toN, b9_76, f2, am_call_s, am_toN, b9_84]
  · rw [f41, u2_p (by omega), u2_p (by omega), u2_p (by omega), u2_p (by omega), u2_p (by omega), u2_s]
  · rw [f41, u2_p (by omega), u2_p (by omega), u2_p (by omega), u2_p (by omega), u2_s]
  · rw [f41, u2_p (by omega), u2_p (by omega), u2_p (by omega), u2_s]
  · rw [f41, u2_p (by omega), u2_p (by omega), u2_s]
  · rw [f41, u2_p (by omega), u2_s]
  · rw [f41, u2_s]
  · unfold fillC
    rw [if_neg (by omega), if_neg (by omega), if_neg (by omega), if_neg (by omega)]; exact e2 p hp
  · unfold fillC
    rw [if_neg (by omega), if_pos ⟨rfl, hm⟩, if_pos ⟨rfl, hm⟩]; exact ⟨rfl, rfl⟩
  · unfold fillC
    rw [if_neg (by omega), if_neg (by omega), e3 a b h4, u2_c h1, u2_c h1, u2_c h1, u2_c h1, u2_c h1, u2_c h1]
/-! the model's floor -/
def bgP (M : tI) (l : Nat) (M' : tI) : Prop := (∀ p, p < l → M' 64 p = -1 ∧ M' 65 p = -1) ∧ ∀ a b, ¬ (64 ≤ a ∧ a ≤ 66) → M' a b = M a b
theorem m_bg1 (d : Nat) : ∀ m l (M' : tI), l + m = 4 → bgP M l M' → ∃ M'', am_ev (d + 1) 209 22 [.ref 0, .int (nI l)] [] (M', J, tm_R, tm_S, 77, 21637) = am_ev (d + 1) 209 56 [.ref 0, .int 0] [] (M'', J, tm_R, tm_S, 77, 21637) ∧ bgP M 4 M'' := by
  intro m
  induction m with
  | zero =>
    intro l M' hl hP
    obtain rfl : l = 4 := by omega
    exact ⟨M', by rw [b209_22, if_pos (by decide : (4 : Int32) ≤ nI 4)], hP⟩
  | succ m ih =>
    intro l M' hl hP
    obtain ⟨p1, p2⟩ := hP
    have ck : Int32.toNatClampNeg (nI l) = l := nI_clamp (by omega)
    have hi : am_in (nI l) 4 := nI_in (by omega) (by omega)
    have key : am_ev (d + 1) 209 22 [.ref 0, .int (nI l)] [] (M', J, tm_R, tm_S, 77, 21637) = am_ev (d + 1) 209 22 [.ref 0, .int (nI (l + 1))] [] (am_u2 (am_u2 (am_u2 M' 64 l (-1)) 65 l (-1)) 66 l 0, J, tm_R, tm_S, 77, 21637) := by
      rw [b209_22, if_neg (geL (c := 4) 4 rfl (by omega) (by omega)), if_pos hi, if_pos hi, if_pos hi]
      simp only [ck]
      rw [nI_1]
    rw [key]
    refine ih (l + 1) _ (by omega) ⟨fun p hp => ?_, fun a b hab => ?_⟩
    · by_cases z : p = l
      · subst z
        exact ⟨by rw [u2_c (by omega), u2_c (by omega), u2_s], by rw [u2_c (by omega), u2_s]⟩
      · rw [u2_p (by omega), u2_p (by omega), u2_p (by omega), u2_p (by omega), u2_p (by omega), u2_p (by omega)]; exact p1 p (by omega)
    · rw [u2_c (by omega), u2_c (by omega), u2_c (by omega)]; exact p2 a b hab
theorem fillC_s (I : tI) (a k : Nat) (v : Int32) : am_u2 (fillC I a k v) a k v = fillC I a (k + 1) v := by
  funext i j
  unfold fillC am_u2
  by_cases q : i = a ∧ j = k
  · rw [if_pos q, if_pos ⟨q.1, by omega⟩]
  · rw [if_neg q]
    dsimp only
    by_cases q2 : i = a ∧ j < k
    · rw [if_pos q2, if_pos ⟨q2.1, by omega⟩]
    · rw [if_neg q2, if_neg (fun w => q2 ⟨w.1, by omega⟩)]
theorem fillC_0 (I : tI) (a : Nat) (v : Int32) : fillC I a 0 v = I := by
  funext i j
  unfold fillC
  rw [if_neg (by omega)]
theorem m_bg2 (d : Nat) (M : tI) : ∀ m l, l + m = 8 → am_ev (d + 1) 209 56 [.ref 0, .int (nI l)] [] (fillC M 67 l 0, J, tm_R, tm_S, 77, 21637) = am_ev (d + 1) 209 77 [.ref 0, .int 0] [] (fillC M 67 8 0, J, tm_R, tm_S, 77, 21637) := by
  intro m
  induction m with
  | zero =>
    intro l hl
    obtain rfl : l = 8 := by omega
    rw [b209_56, if_pos (by decide : (8 : Int32) ≤ nI 8)]
  | succ m ih =>
    intro l hl
    have ck : Int32.toNatClampNeg (nI l) = l := nI_clamp (by omega)
    have hi : am_in (nI l) 8 := nI_in (by omega) (by omega)
    rw [b209_56, if_neg (geL (c := 8) 8 rfl (by omega) (by omega)), if_pos hi]
    simp only [ck]
    rw [fillC_s, nI_1]
    exact ih (l + 1) (by omega)
theorem m_bg3 (d : Nat) (M : tI) : ∀ m l, l + m = 480 → am_ev (d + 1) 209 77 [.ref 0, .int (nI l)] [] (fillC M 63 l 0, J, tm_R, tm_S, 77, 21637) = some (none, (am_u2 (am_u2 (fillC M 63 480 0) 0 89 (-1)) 0 90 0, J, tm_R, tm_S, 77, 21637)) := by
  intro m
  induction m with
  | zero =>
    intro l hl
    obtain rfl : l = 480 := by omega
    rw [b209_77, if_pos (by decide : (480 : Int32) ≤ nI 480)]
  | succ m ih =>
    intro l hl
    have ck : Int32.toNatClampNeg (nI l) = l := nI_clamp (by omega)
    have hi : am_in (nI l) 488 := nI_in (by omega) (by omega)
    rw [b209_77, if_neg (geL (c := 480) 480 rfl (by omega) (by omega)), if_pos hi]
    simp only [ck]
    rw [fillC_s, nI_1]
    exact ih (l + 1) (by omega)
theorem m_beg (M : tI) (d : Nat) : ∃ M', am_G (am_ev (d + 1)) 209 [.ref 0] (M, J, tm_R, tm_S, 77, 21637) = some (none, (M', J, tm_R, tm_S, 77, 21637)) ∧ M' 0 65 = 0 ∧ M' 0 66 = 0 ∧ M' 0 70 = 0 ∧ M' 0 74 = 0 ∧ M' 0 89 = -1 ∧ M' 0 90 = 0 ∧ (∀ p, p < 4 → M' 64 p = -1 ∧ M' 65 p = -1) ∧ (∀ m, m < 8 → M' 67 m = 0) ∧ (∀ i, i < 480 → M' 63 i = 0) ∧ ∀ a j, ¬ (a = 0 ∧ (j = 65 ∨ j = 66 ∨ j = 70 ∨ j = 74 ∨ j = 89 ∨ j = 90)) → ¬ (64 ≤ a ∧ a ≤ 67) → ¬ (a = 63 ∧ j < 480) → M' a j = M a j := by
  obtain ⟨D, e1, e2, e3⟩ := m_bg1 (M := am_u2 (am_u2 (am_u2 (am_u2 M 0 65 0) 0 66 0) 0 70 0) 0 74 0) (J := J) d 4 0 _ (by omega) ⟨fun p hp => by omega, fun _ _ _ => rfl⟩
  have f2 := m_bg2 (J := J) d D 8 0 (by omega)
  rw [fillC_0] at f2
  have f3 := m_bg3 (J := J) d (fillC D 67 8 0) 480 0 (by omega)
  rw [fillC_0] at f3
  have g : ∀ a j, ¬ (a = 63 ∧ j < 480) → ¬ (a = 67 ∧ j < 8) → ¬ (a = 0 ∧ (j = 89 ∨ j = 90)) → am_u2 (am_u2 (fillC (fillC D 67 8 0) 63 480 0) 0 89 (-1)) 0 90 0 a j = D a j := fun a j h1 h2 h3 => by
    rw [fr1 (by omega), fr1 (by omega)]
    unfold fillC
    rw [if_neg h1, if_neg h2]
  refine ⟨am_u2 (am_u2 (fillC (fillC D 67 8 0) 63 480 0) 0 89 (-1)) 0 90 0, ?_, ?_, ?_, ?_, ?_, ?_, u2_s, fun p hp => ?_, fun m hm => ?_, fun i hi => ?_, fun a j h1 h2 h3 => ?_⟩
  · rw [b209_0]
    exact (e1.trans f2).trans f3
  · rw [g 0 65 (by omega) (by omega) (by omega), e3 0 65 (by omega), u2_p (by omega), u2_p (by omega), u2_p (by omega), u2_s]
  · rw [g 0 66 (by omega) (by omega) (by omega), e3 0 66 (by omega), u2_p (by omega), u2_p (by omega), u2_s]
  · rw [g 0 70 (by omega) (by omega) (by omega), e3 0 70 (by omega), u2_p (by omega), u2_s]
  · rw [g 0 74 (by omega) (by omega) (by omega), e3 0 74 (by omega), u2_s]
  · rw [u2_p (by omega), u2_s]
  · rw [g 64 p (by omega) (by omega) (by omega), g 65 p (by omega) (by omega) (by omega)]; exact e2 p hp
  · rw [u2_c (by omega), u2_c (by omega)]
    unfold fillC
    rw [if_neg (by omega), if_pos ⟨rfl, hm⟩]
  · rw [u2_c (by omega), u2_c (by omega)]
    unfold fillC
    rw [if_pos ⟨rfl, hi⟩]
  · by_cases z : a = 67 ∧ j < 8
    · omega
    · rw [g a j h3 z (by omega), e3 a j (by omega), fr1 (by omega), fr1 (by omega), fr1 (by omega), fr1 (by omega)]
/-- the relation after a good text -/
theorem Rl.wg (h : Rl x C M J) (rc : RC (!x) C C') (rm : RM (!x) (mI M (xb (!x))) M') {N : Nat → Nat} {la lb : Nat} (pl : PL x N la lb C' M' J') (hla : la ≤ 1600) (hlb : lb ≤ 1600) (m8 : M' 0 8 = 0) (m9 : M' 0 9 = -1) (c7 : C' 1 7 = 0) (c8 : C' 1 8 = -1) {C2 M2 : tI}
    (k1 : C2 41 1 = 0) (k2 : C2 41 2 = -1) (k3 : C2 41 3 = 0) (k5 : C2 41 5 = 0) (k7 : C2 41 7 = 0) (k10 : C2 41 10 = 0) (kp : ∀ p, p < 4 → C2 (270 + p) 0 = -1 ∧ C2 (270 + p) 1 = -1) (km : ∀ m, m < 8 → C2 84 m = -1 ∧ C2 85 m = 0) (kf : ∀ a b, a ≠ 41 → a ≠ 84 → a ≠ 85 → ¬ (270 ≤ a ∧ a ≤ 273) → C2 a b = am_u2 C' 1 2 0 a b)
    (l65 : M2 0 65 = 0) (l66 : M2 0 66 = 0) (l70 : M2 0 70 = 0) (l74 : M2 0 74 = 0) (l89 : M2 0 89 = -1) (l90 : M2 0 90 = 0) (lp' : ∀ p, p < 4 → M2 64 p = -1 ∧ M2 65 p = -1) (lm : ∀ m, m < 8 → M2 67 m = 0) (lv : ∀ i, i < 480 → M2 63 i = 0) (lf : ∀ a j, ¬ (a = 0 ∧ (j = 65 ∨ j = 66 ∨ j = 70 ∨ j = 74 ∨ j = 89 ∨ j = 90)) → ¬ (64 ≤ a ∧ a ≤ 67) → ¬ (a = 63 ∧ j < 480) → M2 a j = am_u2 (am_u2 (am_u2 M' 0 10 (M' 0 8)) 0 11 (M' 0 9)) 0 12 (M' 0 51) a j) : Rl (!x) C2 M2 J' := by
  have hPP := tc_PP x
  have cF : ∀ a b, ¬ (a = 1 ∧ 2 ≤ b) → ¬ (tc_P (!x) ≤ a ∧ a ≤ tc_P (!x) + 36) → a ≠ 41 → a ≠ 84 → a ≠ 85 → ¬ (270 ≤ a ∧ a ≤ 273) → C2 a b = C a b := fun a b h1 h2 h3 h4 h5 h6 => by
    rw [kf a b h3 h4 h5 h6, fr1 (by omega)]; exact rc a b (by omega) h2
  have mF : ∀ a j, ¬ (a = 0 ∧ (j ≤ 12 ∨ (50 ≤ j ∧ j ≤ 61) ∨ (65 ≤ j ∧ j ≤ 90))) → ¬ (2 ≤ a ∧ a ≤ 44) → ¬ (64 ≤ a ∧ a ≤ 67) → ¬ (a = 63 ∧ j < 480) → M2 a j = M a j := fun a j h1 h2 h3 h4 => by
    rw [lf a j (by omega) h3 h4, fr1 (by omega), fr1 (by omega), fr1 (by omega)]
    exact Rdd.fM rm (by omega) (by omega) (by omega)
  have z0 : (0 : Int32) = nI 0 := rfl
  have cz : Int32.toNatClampNeg (0 : Int32) = 0 := rfl
  have hP := pl.rlP hla hlb
  have e51 := pl.2.2
  obtain ⟨hB, hT, hF, hN, hW, hO, hV, hOw, _, _⟩ := h
  have bk : bkM (!x) M' M2 := fun a k h1 h2 h3 => by
    rw [lf a _ (by omega) (by omega) (by omega), u2_c (by omega), u2_c (by omega), u2_c (by omega)]
  refine ⟨?_, ⟨?_, ?_, fun j hj => ?_⟩, ⟨?_, ?_⟩, fun j hj => ?_, ?_, ?_, ⟨fun i hi => ?_, fun t i ht => ?_, fun t i ht hi => ?_⟩, ?_, ?_, ?_⟩
  · rw [lf 0 12 (by omega) (by omega) (by omega), u2_s]; exact e51
  · rw [kf 1 2 (by omega) (by omega) (by omega) (by omega), u2_s, lf 0 1 (by omega) (by omega) (by omega), u2_p (by omega), u2_p (by omega), u2_p (by omega)]; exact (Rdd.m01 rm).symm
  · rw [lf 0 1 (by omega) (by omega) (by omega), u2_p (by omega), u2_p (by omega), u2_p (by omega), Rdd.m01 rm]; exact ⟨0, by omega, rfl⟩
  · rw [cF 3 j (by omega) (by omega) (by omega) (by omega) (by omega) (by omega), mF 1 j (by omega) (by omega) (by omega) (by omega)]; exact hT.2.2 j hj
  · rw [kf 1 7 (by omega) (by omega) (by omega) (by omega), u2_p (by omega), c7, lf 0 10 (by omega) (by omega) (by omega), u2_p (by omega), u2_p (by omega), u2_s, m8]
  · rw [kf 1 8 (by omega) (by omega) (by omega) (by omega), u2_p (by omega), c8, lf 0 11 (by omega) (by omega) (by omega), u2_p (by omega), u2_s, m9]
  · rw [cF 288 j (by omega) (by omega) (by omega) (by omega) (by omega) (by omega), mF 45 j (by omega) (by omega) (by omega) (by omega)]; exact hN j hj
  · exact hW.fr (cF 0 8 (by omega) (by omega) (by omega) (by omega) (by omega) (by omega)) (mF 0 91 (by omega) (by omega) (by omega) (by omega))
  · exact hO.fr (fun a b z => cF a b (by omega) (by omega) (by omega) (by omega) (by omega) (by omega)) (fun a b z => mF a b (by omega) (by omega) (by omega) (by omega))
  · rw [cF 286 i (by omega) (by omega) (by omega) (by omega) (by omega) (by omega), mF 63 (480 + i) (by omega) (by omega) (by omega) (by omega)]; exact hV.1 i hi
  · rw [l74, cz] at ht; omega
  · rw [lv (8 * t + i) (by omega)]; exact ⟨⟨0, by omega, rfl⟩, fun _ => rfl⟩
  · exact hOw.fr (fun b => cF 2 b (by omega) (by omega) (by omega) (by omega) (by omega) (by omega))
  · exact hP.bk (fun a b z1 z2 => by rw [kf a b (by omega) (by omega) (by omega) (by omega), u2_c (by omega)]) bk (fun q k hq hk => rfl)
  · refine ⟨⟨?_, ?_, ?_, ?_, ?_, ?_, ?_, ?_, ?_, ?_, ?_⟩, fun b hb => ?_, fun l hl => ?_, fun t ht => ?_, ⟨fun p hp => ?_, fun p q hpq hq => ?_, fun t ht => ?_⟩, ⟨fun m hm => ?_, fun m hm => ?_⟩⟩
    · rw [k1, l65]
    · rw [l65]; exact ⟨0, by omega, rfl⟩
    · rw [k2, l89]
    · exact Or.inl l89
    · rw [k3, l90]
    · rw [k5, l66]
    · rw [l66]; exact ⟨0, by omega, rfl⟩
    · rw [k7, l70]
    · rw [l70]; exact ⟨0, by omega, rfl⟩
    · rw [k10, l74]
    · rw [l74]; exact ⟨0, by omega, rfl⟩
    · rw [l66, cz] at hb; omega
    · rw [l70, cz] at hl; omega
    · rw [l74, cz] at ht; omega
    · rw [(kp p hp).1, (kp p hp).2, (lp' p hp).1, (lp' p hp).2]
      exact ⟨rfl, rfl, fun _ => ⟨rfl, rfl⟩, Or.inl rfl, Or.inl rfl⟩
    · exact ⟨Or.inl (lp' p (by omega)).1, Or.inl (lp' p (by omega)).2⟩
    · rw [l74, cz] at ht; omega
    · rw [(km m hm).2, lm m hm]; exact ⟨rfl, 0, by omega, rfl⟩
    · have h22 : Int32.toNatClampNeg (M2 22 (xb (!x))) ≤ 8 := by
        rw [bk.c (a := 22) (by omega) (by omega) rfl]
        exact hP.1.2.2.2.2.1.2.cl (by omega)
      exact Or.inl ⟨(km m (by omega)).1, fun p hp => by rw [(lp' p hp).1]; exact fun q => nI_ne (by omega : m < 2 ^ 31) q.symm⟩
theorem k_works (hl : LawOK) (h : Rl x C M J) : Lk 112 201 [] x C M Jc J := by
  obtain ⟨C', M', J', r, wv, a1, a2, rc, rm, rj, a3⟩ := rd_both (Jc := Jc) hl h
  rcases a3 with ⟨m8, c7, c8, m9, ⟨c, hc, rfl, rfl⟩, N, la, lb, pl, hla, hlb⟩ | ⟨rfl, f, p0, f0, f5, m8, m9, c7, c8⟩
  · obtain ⟨C2, s0, s1, s2, s3, s5, s7, s10, sp, sm, sf⟩ := c_rst (C := am_u2 C' 1 2 0) (Jc := Jc) x 97
    obtain ⟨M2, t0, t65, t66, t70, t74, t89, t90, tp, tm, tv, tf⟩ := m_beg (J := J') (am_u2 (am_u2 (am_u2 M' 0 10 (M' 0 8)) 0 11 (M' 0 9)) 0 12 (M' 0 51)) 98
    refine ⟨nI c, !x, C2, M2, J', ?_, ?_, h.wg rc rm pl hla hlb m8 m9 c7 c8 s1 s2 s3 s5 s7 s10 sp sm sf t65 t66 t70 t74 t89 t90 tp tm tv tf⟩
    · rw [b112_0, a1, am_call_s, am_toL, b112_7, if_neg (nI_ne (by omega : c < 2 ^ 31)), s0, am_call_s, am_toN, b112_57]
    · rw [a2, b201_206, if_pos (by rw [m8]; decide), t0, am_call_s, am_toN, b201_247]
  · refine ⟨-1, x, _, _, J', ?_, ?_, h.wf rc rm rj m8 m9 c7 c8⟩
    · rw [b112_0, a1, am_call_s, am_toL, b112_7, if_pos rfl, crk 98 _ _ _ 1 1 rfl (by omega), am_call_s, am_toL, b112_26]
    · rw [a2, b201_206, if_neg (by rw [m8]; exact (show ¬ nI f ≤ 0 from nI_ge (a := 0) f0 (by omega))), mrk 98 _ _ 1 1 rfl (by omega), am_call_s, am_toL, b201_234]
end WRK
