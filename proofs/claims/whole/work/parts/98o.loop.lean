/-! THE LOOP over the statements -/
def Rdd (x : Bool) (C M : tI) (J : tJ) (C' M' : tI) (J' : tJ) (r wv : Int32) : Prop := RC (!x) C C' ∧ RM (!x) M M' ∧ RJ (!x) J J' ∧ ((M' 0 8 = 0 ∧ C' 1 7 = 0 ∧ C' 1 8 = -1 ∧ M' 0 9 = -1 ∧ (∃ c, c ≤ 1600 ∧ r = nI c ∧ wv = nI c) ∧ ∃ N la lb, PL x N la lb C' M' J' ∧ la ≤ 1600 ∧ lb ≤ 1600) ∨ (r = -1 ∧ ∃ f p0, 0 < f ∧ f ≤ 5 ∧ M' 0 8 = nI f ∧ M' 0 9 = nI p0 ∧ C' 1 7 = nI f ∧ C' 1 8 = nI p0))
section LOP
variable {T : Nat → Nat} {n lo p q k v la lb : Nat} {w : List Nat} {x y : Bool} {C M C' M' : tI} {J J' Jc : tJ} {N : Nat → Nat}
theorem Bd.fin (h : Bd C M) (h7 : ¬ C 1 7 = 0) : ∃ f p0, 0 < f ∧ f ≤ 5 ∧ M 0 8 = nI f ∧ M 0 9 = nI p0 ∧ C 1 7 = nI f ∧ C 1 8 = nI p0 := by
  obtain ⟨f, p, f0, f5, hp, h8, h9, h4, hc⟩ := h
  rcases hc with ⟨a, b⟩ | ⟨a, _, _⟩
  · exact ⟨f, p, f0, f5, h8, h9, a, b⟩
  · exact absurd a h7
theorem rd_bad (h : Bd C M) {c : Nat} (hc : c < 1500) (d : Nat) : ∃ C', am_ev (d + 61) 74 33 [.ref 1, .int (nI c)] [] (C, Jc, (tc_R x), tc_S, 289, 11479) = some (some (.int (-1)), (C', Jc, (tc_R x), tc_S, 289, 11479)) ∧ TF C C' ∧ Bd C' M ∧ ¬ C' 1 7 = 0 := by
  have h16 : ∀ c, c < 1600 → ¬ (1600 : Int32) ≤ nI c := fun c hc => geL (c := 1600) 1600 rfl hc (by omega)
  have n1 : ¬ (0 : Int32) = 1 := by decide
  have n3 : ¬ (0 : Int32) = 3 := by decide
  by_cases z : C 1 7 = 0
  · obtain ⟨C1, a1, a2, a3, a4⟩ := h.failC (Jc := Jc) (x := x) (d + 59)
    obtain ⟨C2, b1, b2, b3, b4⟩ := a3.tk (Jc := Jc) (x := x) (c := 5) (by decide) 59 (d + 58)
    refine ⟨C2, ?_, a2.tr b2, b3, b4⟩
    rw [b74_33, if_neg (h16 c (by omega)), h.c4, if_neg n1, if_pos z, if_neg n3]
    refine (c_noS _ _ _ (by decide) (by decide) (by decide) (by decide) (by decide) (by decide) (by decide) (by decide) (by decide) (by decide) (by decide)).trans ((congrArg (fun z => am_call z _) a1).trans ?_)
    rw [am_call_s, am_toN, b74_250]
    refine (congrArg (fun z => am_call z _) b1).trans ?_
    rw [am_call_s, am_toN, b74_257, nI_1, b74_33, if_neg (h16 (c + 1) (by omega)), b3.c4, if_neg n1, if_neg b4, b74_263, if_neg b4]
  · refine ⟨C, ?_, TF.rf C, h, z⟩
    rw [b74_33, if_neg (h16 c (by omega)), h.c4, if_neg n1, if_neg z, b74_263, if_neg z]
theorem rd_loop (hl : LawOK) (d e : Nat) : ∀ m (C M : tI) (J : tJ) (p q k v : Nat) (w : List Nat) (N : Nat → Nat) (la lb c : Nat), n - p ≤ m → Gd T n C M J p q k v w → PL x N la lb C M J → la ≤ p → lb ≤ p → 2 * c ≤ p → ∃ C' M' J' r wv, am_ev (d + 61) 74 33 [.ref 1, .int (nI c)] [] (C, Jc, (tc_R x), tc_S, 289, 11479) = some (some (.int r), (C', Jc, (tc_R x), tc_S, 289, 11479)) ∧ am_ev (e + 13) 201 182 [.ref 0, .int (nI c)] [] (M, J, tm_R, tm_S, 77, 21637) = am_ev (e + 13) 201 206 [.ref 0, .int wv] [] (M', J', tm_R, tm_S, 77, 21637) ∧ Rdd x C M J C' M' J' r wv := by
  intro m
  induction m with
  | zero =>
    intro C M J p q k v w N la lb c hm g hP hla hlb hc
    have hk : k = 1 := by
      by_cases z : k = 1
      · exact z
      · have h1 : p < q := g.2.2.2.2.2.2.2.2.2.2.1 z
        have h2 := g.2.1
        omega
    have hp := g.pn
    have h16 : ¬ (1600 : Int32) ≤ nI c := geL (c := 1600) 1600 rfl (by omega) (by omega)
    refine ⟨C, M, J, nI c, nI c, ?_, ?_, RC.rf, RM.rf, RJ.rf, Or.inl ⟨g.m8, g.c7, g.1.2.2.2.1, g.1.2.2.2.2.1, ⟨c, by omega, rfl, rfl⟩, N, la, lb, hP, by omega, by omega⟩⟩
    · rw [b74_33, if_neg h16, if_pos ((g.ke (c := 1) (j := 1) rfl (by omega)).mpr hk), b74_263, if_pos g.c7]
    · rw [b201_182, if_pos g.m8, if_pos ((g.me (c := 0) (j := 0) rfl (by omega)).mpr (mkk_0.mpr hk))]
  | succ m ih =>
    intro C M J p q k v w N la lb c hm g hP hla hlb hc
    have hp := g.pn
    have h16 : ¬ (1600 : Int32) ≤ nI c := geL (c := 1600) 1600 rfl (by omega) (by omega)
    by_cases hk : k = 1
    · refine ⟨C, M, J, nI c, nI c, ?_, ?_, RC.rf, RM.rf, RJ.rf, Or.inl ⟨g.m8, g.c7, g.1.2.2.2.1, g.1.2.2.2.2.1, ⟨c, by omega, rfl, rfl⟩, N, la, lb, hP, by omega, by omega⟩⟩
      · rw [b74_33, if_neg h16, if_pos ((g.ke (c := 1) (j := 1) rfl (by omega)).mpr hk), b74_263, if_pos g.c7]
      · rw [b201_182, if_pos g.m8, if_pos ((g.me (c := 0) (j := 0) rfl (by omega)).mpr (mkk_0.mpr hk))]
    · obtain ⟨C2, M2, J2, a1, a2, a3, a4, a5, q2, a6, a7, a8⟩ := stm1 (Jc := Jc) (x := x) hl g hk hP hla hlb d e (nI c) h16
      rw [nI_1] at a1
      have m1 : am_ev (e + 13) 201 182 [.ref 0, .int (nI c)] [] (M, J, tm_R, tm_S, 77, 21637) = am_ev (e + 13) 201 182 [.ref 0, .int (nI (c + 1))] [] (M2, J2, tm_R, tm_S, 77, 21637) := by
        rw [b201_182, if_pos g.m8, if_neg (fun y => hk (mkk_0.mp ((g.me (c := 0) (j := 0) rfl (by omega)).mp y))), a2, am_call_s, am_toN, b201_200, nI_1]
      by_cases z : M2 0 8 = 0
      · obtain ⟨p2, q3, k3, v3, w3, g2, hq2⟩ := a7.gd z
        obtain ⟨b1, N', la', lb', b2, b3, b4⟩ := a8 z
        obtain ⟨C', M', J', r, wv, c1, c2, c3, c4, c5, c6⟩ := ih C2 M2 J2 p2 q3 k3 v3 w3 N' la' lb' (c + 1) (by omega) g2 b2 (by omega) (by omega) (by omega)
        exact ⟨C', M', J', r, wv, a1.trans c1, m1.trans c2, a3.tr c3, a4.tr c4, a5.tr c5, c6⟩
      · obtain ⟨C', b1, b2, b3, b4⟩ := rd_bad (Jc := Jc) (x := x) (a7.bdd z) (c := c + 1) (by omega) d
        refine ⟨C', M2, J2, -1, nI (c + 1), a1.trans b1, m1.trans ?_, a3.tr b2.rc, a4, a5, Or.inr ⟨rfl, b3.fin b4⟩⟩
        rw [b201_182, if_neg z]
/-! the plan is cleared -/
theorem ts_t9 : ∀ y : Bool, tc_S (tc_P y + 1) = (20, 9) := by decide +kernel
def clP (y : Bool) (C : tI) (l : Nat) (C' : tI) : Prop := (∀ s b, s < l → b < 8 → C' (tc_P y + 15 + s) b = 0) ∧ (∀ s b, s < l → b < 6 → C' (tc_P y + 22 + s) b = 1) ∧ ∀ a b, ¬ (tc_P y + 15 ≤ a ∧ a ≤ tc_P y + 27) → C' a b = C a b
theorem c_clr (y : Bool) (d : Nat) : ∀ m l (C' : tI), l + m = 6 → clP y C l C' → ∃ C'', am_ev (d + 2) 55 10 [.ref (tc_P y), .int (nI l)] [] (C', Jc, (tc_R x), tc_S, 289, 11479) = am_ev (d + 2) 55 10 [.ref (tc_P y), .int (nI 6)] [] (C'', Jc, (tc_R x), tc_S, 289, 11479) ∧ clP y C 6 C'' := by
  have hy := tc_P4 y
  intro m
  induction m with
  | zero =>
    intro l C' hl hP
    obtain rfl : l = 6 := by omega
    exact ⟨C', rfl, hP⟩
  | succ m ih =>
    intro l C' hl hP
    obtain ⟨p1, p2, p3⟩ := hP
    have ck : Int32.toNatClampNeg (nI l) = l := nI_clamp (by omega)
    have hi : am_in (nI l) 6 := nI_in (by omega) (by omega)
    have f1 := c_fill d C' Jc x (0 : Int32) (ts_nd y l (by omega)) (by omega) (by omega)
    have f2 := c_fill d (fillC C' (tc_P y + 15 + l) 8 0) Jc x (1 : Int32) (ts_ch y l (by omega)) (by omega) (by omega)
    have key : am_ev (d + 2) 55 10 [.ref (tc_P y), .int (nI l)] [] (C', Jc, (tc_R x), tc_S, 289, 11479) = am_ev (d + 2) 55 10 [.ref (tc_P y), .int (nI (l + 1))] [] (fillC (fillC C' (tc_P y + 15 + l) 8 0) (tc_P y + 22 + l) 6 1, Jc, (tc_R x), tc_S, 289, 11479) := by
      rw [b55_10, if_neg (geL (c := 6) 6 rfl (by omega) (by omega)), if_pos hi]
      (simp only [ck])
      rw [f1, am_call_s, am_toN, b55_26, if_pos hi]
      (simp only [ck])
      rw [f2, am_call_s, am_toN, b55_36, nI_1]
    rw [key]
    refine ih (l + 1) _ (by omega) ⟨fun s b hs hb => ?_, fun s b hs hb => ?_, fun a b hab => ?_⟩
    · unfold fillC
      rw [if_neg (by omega)]
      by_cases zs : s = l
      · rw [if_pos ⟨by omega, hb⟩]
      · rw [if_neg (by omega)]; exact p1 s b (by omega) hb
    · unfold fillC
      by_cases zs : s = l
      · rw [if_pos ⟨by omega, hb⟩]
      · rw [if_neg (by omega), if_neg (by omega)]; exact p2 s b (by omega) hb
    · unfold fillC
      rw [if_neg (by omega), if_neg (by omega)]; exact p3 a b hab
theorem c_clear (y : Bool) (d : Nat) : ∃ C', am_G (am_ev (d + 2)) 55 [.ref (tc_P y)] (C, Jc, (tc_R x), tc_S, 289, 11479) = some (none, (C', Jc, (tc_R x), tc_S, 289, 11479)) ∧ (∀ q, q < 9 → C' (tc_P y + 1) q = 0) ∧ (∀ s b, s < 6 → b < 8 → C' (tc_P y + 15 + s) b = 0) ∧ (∀ s b, s < 6 → b < 6 → C' (tc_P y + 22 + s) b = 1) ∧ C' (tc_P y + 33) 2 = 0 ∧ C' (tc_P y) 16 = 100 ∧ C' (tc_P y) 17 = 0 ∧ C' (tc_P y) 18 = 0 ∧ C' (tc_P y) 19 = 999 ∧ ∀ a b, ¬ (tc_P y ≤ a ∧ a ≤ tc_P y + 36) → C' a b = C a b := by
  have hy := tc_P4 y
  have f0 := c_fill d C Jc x (0 : Int32) (ts_t9 y) (by omega) (by omega)
  obtain ⟨D, e1, e2, e3, e4⟩ := c_clr (C := fillC C (tc_P y + 1) 9 0) (Jc := Jc) (x := x) y d 6 0 _ (by omega) ⟨fun s b hs => by omega, fun s b hs => by omega, fun _ _ _ => rfl⟩
  refine ⟨am_u2 (am_u2 (am_u2 (am_u2 (am_u2 D (tc_P y + 33) 2 0) (tc_P y) 16 100) (tc_P y) 17 0) (tc_P y) 18 0) (tc_P y) 19 999, ?_, fun q hq => ?_, fun s b hs hb => ?_, fun s b hs hb => ?_, ?_, ?_, ?_, ?_, ?_, fun a b hab => ?_⟩
  · rw [b55_0, f0, am_call_s, am_toN, b55_8]
    refine e1.trans ?_
    rw [b55_10, if_pos (by decide : (6 : Int32) ≤ nI 6)]
  · rw [u2_c (by omega), u2_c (by omega), u2_c (by omega), u2_c (by omega), u2_c (by omega), e4 _ _ (by omega)]
    unfold fillC
    rw [if_pos ⟨rfl, hq⟩]
  · rw [u2_c (by omega), u2_c (by omega), u2_c (by omega), u2_c (by omega), u2_c (by omega)]; exact e2 s b hs hb
  · rw [u2_c (by omega), u2_c (by omega), u2_c (by omega), u2_c (by omega), u2_c (by omega)]; exact e3 s b hs hb
  · rw [u2_c (by omega), u2_c (by omega), u2_c (by omega), u2_c (by omega), u2_s]
  · rw [u2_p (by omega), u2_p (by omega), u2_p (by omega), u2_s]
  · rw [u2_p (by omega), u2_p (by omega), u2_s]
  · rw [u2_p (by omega), u2_s]
  · rw [u2_s]
  · rw [u2_c (by omega), u2_c (by omega), u2_c (by omega), u2_c (by omega), u2_c (by omega), e4 _ _ (by omega)]
    unfold fillC
    rw [if_neg (by omega)]
end LOP
