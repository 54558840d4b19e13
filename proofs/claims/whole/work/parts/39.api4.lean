/-! cut, scrap, clean, mount; mould, needs, change -/
section API4
variable {x : Bool} {C M : tI} {J Jc : tJ}
theorem Rl.n6 (h : Rl x C M J) : C (tc_P x + 1) 1 = M 6 (xb x) ∧ bd (M 6 (xb x)) 8 := h.Pc.2.1
theorem m_part8 (d : Nat) (I : tI) (J : tJ) (k : Int32) : am_G (am_ev (d + 1)) 215 [.ref 0, .int k] (I, J, tm_R, tm_S, 77, 21637) = some (some (.int (8 * I 0 12 + k)), (I, J, tm_R, tm_S, 77, 21637)) := by rw [b215_0]
theorem m_size6 (d : Nat) (I : tI) (J : tJ) (k : Int32) : am_G (am_ev (d + 1)) 216 [.ref 0, .int k] (I, J, tm_R, tm_S, 77, 21637) = some (some (.int (6 * I 0 12 + k)), (I, J, tm_R, tm_S, 77, 21637)) := by rw [b216_0]
theorem m_mould8 (d : Nat) (I : tI) (J : tJ) (k : Int32) : am_G (am_ev (d + 1)) 217 [.ref 0, .int k] (I, J, tm_R, tm_S, 77, 21637) = some (some (.int (8 * I 0 12 + k)), (I, J, tm_R, tm_S, 77, 21637)) := by rw [b217_0]
theorem m_order8 (d : Nat) (I : tI) (J : tJ) (k : Int32) : am_G (am_ev (d + 1)) 218 [.ref 0, .int k] (I, J, tm_R, tm_S, 77, 21637) = some (some (.int (8 * I 0 12 + k)), (I, J, tm_R, tm_S, 77, 21637)) := by rw [b218_0]
theorem Rl.ix8 (h : Rl x C M J) (k : Nat) : 8 * M 0 12 + nI k = nI (8 * xb x + k) := by rw [h.B]; exact nI_ix 8 (xb x) k
theorem Rl.ix6 (h : Rl x C M J) (k : Nat) : 6 * M 0 12 + nI k = nI (6 * xb x + k) := by rw [h.B]; exact nI_ix 6 (xb x) k
def cutC (C : tI) (b l : Nat) (a w n q : Int32) : tI := am_u2 (am_u2 (am_u2 (am_u2 (am_u2 C (86 + b) 1 q) (110 + l) 0 w) (110 + l) 1 a) (110 + l) 2 n) 41 7 (nI (l + 1))
def cutM (M : tI) (b l : Nat) (a w n q : Int32) : tI := am_u2 (am_u2 (am_u2 (am_u2 (am_u2 M 49 b q) 51 l w) 52 l a) 53 l n) 0 70 (nI (l + 1))
theorem fr5 {C : tI} {k0 j0 k1 j1 k2 j2 k3 j3 k4 j4 a b : Nat} {v0 v1 v2 v3 v4 : Int32} (h0 : a ≠ k0 ∨ b ≠ j0) (h1 : a ≠ k1 ∨ b ≠ j1) (h2 : a ≠ k2 ∨ b ≠ j2) (h3 : a ≠ k3 ∨ b ≠ j3) (h4 : a ≠ k4 ∨ b ≠ j4) : am_u2 (am_u2 (am_u2 (am_u2 (am_u2 C k0 j0 v0) k1 j1 v1) k2 j2 v2) k3 j3 v3) k4 j4 v4 a b = C a b := by
  unfold am_u2
  rw [if_neg (by omega), if_neg (by omega), if_neg (by omega), if_neg (by omega), if_neg (by omega)]
theorem Rl.cut (h : Rl x C M J) {b l k n q : Nat} (hl : M 0 70 = nI l) (h40 : l < 40) (hb : b < Int32.toNatClampNeg (M 0 66)) (hk : k < Int32.toNatClampNeg (M 6 (xb x))) (hn : n ≤ 60) (hq : q ≤ 999) : Rl x (cutC C b l (nI b) (nI k) (nI n) (nI q)) (cutM M b l (nI b) (nI k) (nI n) (nI q)) J := by
  have hx := tc_P4 x
  have hk8 := h.n6.2.cl (by omega)
  have n74 := h.n74
  have n66 := h.nbB.cl (by omega)
  obtain ⟨h0, hbb, hll, ht, hpp, hm⟩ := h.H
  have cn70 : Int32.toNatClampNeg (M 0 70) = l := by rw [hl]; exact nI_clamp (by omega)
  have u70 : cutM M b l (nI b) (nI k) (nI n) (nI q) 0 70 = nI (l + 1) := u2_s
  have c70 : Int32.toNatClampNeg (cutM M b l (nI b) (nI k) (nI n) (nI q) 0 70) = l + 1 := by rw [u70]; exact nI_clamp (by omega)
  have fC : ∀ a c, a ≠ 110 + l → (a = 86 + b → c ≠ 1) → (a = 41 → c ≠ 7) → cutC C b l (nI b) (nI k) (nI n) (nI q) a c = C a c := fun a c q1 q2 q3 => fr5 (by omega) (by omega) (by omega) (by omega) (by omega)
  have fM : ∀ a c, (a = 49 → c ≠ b) → (51 ≤ a ∧ a ≤ 53 → c ≠ l) → (a = 0 → c ≠ 70) → cutM M b l (nI b) (nI k) (nI n) (nI q) a c = M a c := fun a c q1 q2 q3 => fr5 (by omega) (by omega) (by omega) (by omega) (by omega)
  refine h.flr ⟨?_, ?_, ?_, ?_, ?_, ?_⟩ (h.V.fr n74 (fun a b _ => fC a b (by omega) (by omega) (by omega)) (fun a b _ => fM a b (by omega) (by omega) (by omega))) (fun a b _ => fC a b (by omega) (by omega) (by omega)) (fun a b _ => fM a b (by omega) (by omega) (by omega))
  · unfold rl_H0
    rw [u70]
    simp only [fC 41 1 (by omega) (by omega) (by omega), fC 41 2 (by omega) (by omega) (by omega), fC 41 3 (by omega) (by omega) (by omega), fC 41 5 (by omega) (by omega) (by omega), fC 41 10 (by omega) (by omega) (by omega), fM 0 65 (by omega) (by omega) (by omega), fM 0 89 (by omega) (by omega) (by omega), fM 0 90 (by omega) (by omega) (by omega), fM 0 66 (by omega) (by omega) (by omega), fM 0 74 (by omega) (by omega) (by omega), fun b => fM 11 b (by omega) (by omega) (by omega)]
    unfold rl_H0 at h0
    exact ⟨h0.1, h0.2.1, h0.2.2.1, h0.2.2.2.1, h0.2.2.2.2.1, h0.2.2.2.2.2.1, h0.2.2.2.2.2.2.1, u2_s, bd_nI (by omega), h0.2.2.2.2.2.2.2.2.2⟩
  · intro b' hb'
    rw [fM 0 66 (by omega) (by omega) (by omega)] at hb'
    have g := hbb b' hb'
    rw [fM 2 _ (by omega) (by omega) (by omega), fM 0 65 (by omega) (by omega) (by omega), fM 48 _ (by omega) (by omega) (by omega), fM 50 _ (by omega) (by omega) (by omega), fC _ 0 (by omega) (by omega) (by omega), fC _ 2 (by omega) (by omega) (by omega)]
    by_cases e : b' = b
    · subst e
      have e1 : cutC C b' l (nI b') (nI k) (nI n) (nI q) (86 + b') 1 = nI q := by unfold cutC; rw [u2_c (by omega), u2_c (by omega), u2_c (by omega), u2_c (by omega), u2_s]
      have e2 : cutM M b' l (nI b') (nI k) (nI n) (nI q) 49 b' = nI q := by unfold cutM; rw [u2_c (by omega), u2_c (by omega), u2_c (by omega), u2_c (by omega), u2_s]
      rw [e1, e2]
      exact ⟨g.1, rfl, g.2.2.1, g.2.2.2.1, g.2.2.2.2.1, bd_nI hq, g.2.2.2.2.2.2⟩
    · rw [fC _ 1 (by omega) (by omega) (by omega), fM 49 _ (by omega) (by omega) (by omega)]
      exact g
  · intro l' hl'
    ((try simp only [c70] at hl'))
    rw [fM 6 _ (by omega) (by omega) (by omega), fM 0 66 (by omega) (by omega) (by omega)]
    by_cases e : l' = l
    · subst e
      have e1 : cutC C b l' (nI b) (nI k) (nI n) (nI q) (110 + l') 0 = nI k := by unfold cutC; rw [u2_c (by omega), u2_p (by omega), u2_p (by omega), u2_s]
      have e2 : cutC C b l' (nI b) (nI k) (nI n) (nI q) (110 + l') 1 = nI b := by unfold cutC; rw [u2_c (by omega), u2_p (by omega), u2_s]
      have e3 : cutC C b l' (nI b) (nI k) (nI n) (nI q) (110 + l') 2 = nI n := by unfold cutC; rw [u2_c (by omega), u2_s]
      have e4 : cutM M b l' (nI b) (nI k) (nI n) (nI q) 51 l' = nI k := by unfold cutM; rw [u2_c (by omega), u2_c (by omega), u2_c (by omega), u2_s]
      have e5 : cutM M b l' (nI b) (nI k) (nI n) (nI q) 52 l' = nI b := by unfold cutM; rw [u2_c (by omega), u2_c (by omega), u2_s]
      have e6 : cutM M b l' (nI b) (nI k) (nI n) (nI q) 53 l' = nI n := by unfold cutM; rw [u2_c (by omega), u2_s]
      rw [e1, e2, e3, e4, e5, e6]
      refine ⟨rfl, rfl, rfl, bd_nI (by omega), ?_, bd_nI (by omega), ?_, bd_nI hn⟩
      · ((try simp (disch := omega) only [nI_clamp])); exact hk
      · ((try simp (disch := omega) only [nI_clamp])); exact hb
    · have g := hll l' (by omega)
      rw [fC _ 0 (by omega) (by omega) (by omega), fC _ 1 (by omega) (by omega) (by omega), fC _ 2 (by omega) (by omega) (by omega), fM 51 _ (by omega) (by omega) (by omega), fM 52 _ (by omega) (by omega) (by omega), fM 53 _ (by omega) (by omega) (by omega)]
      exact g
  · exact ht.fr n74 (fun a b _ => fC a b (by omega) (by omega) (by omega)) (fun a b _ => fM a b (by omega) (by omega) (by omega))
  · exact hpp.fr n74 (fun a b _ => fC a b (by omega) (by omega) (by omega)) (fun a b _ => fM a b (by omega) (by omega) (by omega))
  · exact hm.fr (fun a b _ => fC a b (by omega) (by omega) (by omega)) (fun a b _ => fM a b (by omega) (by omega) (by omega))
theorem k_cut (h : Rl x C M J) (a w n : Int32) : Lk 124 234 [.int a, .int w, .int n] x C M Jc J := by
  have bad := fun e1 e2 => (⟨-1, x, _, _, J, e1, e2, h.ref 2 (by omega)⟩ : Lk 124 234 [.int a, .int w, .int n] x C M Jc J)
  obtain ⟨l, hl, el⟩ := h.nlB
  have hx := xb1 x
  rcases h.ba (Jc := Jc) a 98 97 with ⟨e1, e2⟩ | ⟨b, hb, rfl, hb24, e1, e2⟩
  · exact bad (by rw [b124_0, e1, am_call_s, am_toL, b124_8, if_pos rfl, crk _ _ _ _ 2 2 rfl (by omega), am_call_s, am_toL, b124_55]) (by rw [b234_0, e2, am_call_s, am_toL, b234_5, if_pos rfl, mrk _ _ _ 2 2 rfl (by omega), am_call_s, am_toL, b234_41])
  have g := h.H.2.1 b hb
  have f1 := Eq.refl (am_G (am_ev 100) 124 [.ref 0, .int (nI b), .int w, .int n] (C, Jc, (tc_R x), tc_S, 289, 11479))
  conv at f1 => rhs; rw [b124_0, e1, am_call_s, am_toL, b124_8, if_neg (by decide : ¬ (1 : Int32) = 0), (show (1 : Int32) = nI 1 from rfl)]
  have f2 := Eq.refl (am_G (am_ev 100) 234 [.ref 0, .int (nI b), .int w, .int n] (M, J, tm_R, tm_S, 77, 21637))
  conv at f2 => rhs; rw [b234_0, e2, am_call_s, am_toL, b234_5, if_neg (by decide : ¬ (1 : Int32) = 0), (show (1 : Int32) = nI 1 from rfl)]
  rcases h.kind (Jc := Jc) (q := 1) (by omega) w 98 97 with ⟨e3, e4⟩ | ⟨k, hk, rfl, hk8, e3, e4⟩
  · exact bad (by rw [f1, e3, am_call_s, am_toL, b124_23, if_pos rfl, crk _ _ _ _ 2 2 rfl (by omega), am_call_s, am_toL, b124_55]) (by rw [f2, e4, am_call_s, am_toL, b234_14, if_pos rfl, mrk _ _ _ 2 2 rfl (by omega), am_call_s, am_toL, b234_41])
  have hk8 : k < 8 := hk8
  have hk : k < Int32.toNatClampNeg (M 6 (xb x)) := hk
  have gp := h.P.2.2.2.1 k hk
  have f3 := Eq.refl (am_G (am_ev 100) 124 [.ref 0, .int (nI b), .int (nI k), .int n] (C, Jc, (tc_R x), tc_S, 289, 11479))
  conv at f3 => rhs; rw [f1, e3, am_call_s, am_toL, b124_23, if_neg (by decide : ¬ (1 : Int32) = 0)]
  have f4 := Eq.refl (am_G (am_ev 100) 234 [.ref 0, .int (nI b), .int (nI k), .int n] (M, J, tm_R, tm_S, 77, 21637))
  conv at f4 => rhs; rw [f2, e4, am_call_s, am_toL, b234_14, if_neg (by decide : ¬ (1 : Int32) = 0)]
  by_cases hw : 1 ≤ n ∧ n ≤ 60
  rotate_left
  · refine bad ?_ (by rw [f4, m_is0 _ _ _ hw, am_call_s, am_toL, b234_24, if_pos rfl, mrk _ _ _ 2 2 rfl (by omega), am_call_s, am_toL, b234_41])
    rw [f3]
    by_cases w1 : n < 1
    · rw [if_pos w1, crk _ _ _ _ 2 2 rfl (by omega), am_call_s, am_toL, b124_55]
    · rw [if_neg w1, if_pos (Int32.not_le.mp (fun q => hw ⟨Int32.not_lt.mp w1, q⟩)), crk _ _ _ _ 2 2 rfl (by omega), am_call_s, am_toL, b124_55]
  have w1 : ¬ n < 1 := Int32.not_lt.mpr hw.1
  have w2 : ¬ 60 < n := Int32.not_lt.mpr hw.2
  obtain ⟨p, hp, ep, hp1⟩ : ∃ p, p ≤ 60 ∧ n = nI p ∧ 1 ≤ p := by
    obtain ⟨p, hp, ep⟩ := nI_of (x := n) (by rw [i_lt] at w1 ⊢; have : (0 : Int32).toInt = 0 := rfl; have : (1 : Int32).toInt = 1 := rfl; omega)
    have q := hw.2
    have q1 := hw.1
    rw [ep, (show (60 : Int32) = nI 60 from rfl), nI_leI hp (by omega)] at q
    rw [ep, (show (1 : Int32) = nI 1 from rfl), nI_leI (by omega) hp] at q1
    exact ⟨p, q, ep, q1⟩
  subst ep
  have f5 := Eq.refl (am_G (am_ev 100) 124 [.ref 0, .int (nI b), .int (nI k), .int (nI p)] (C, Jc, (tc_R x), tc_S, 289, 11479))
  conv at f5 => rhs; rw [f3, if_neg w1, if_neg w2, b16_0]
  have f6 := Eq.refl (am_G (am_ev 100) 234 [.ref 0, .int (nI b), .int (nI k), .int (nI p)] (M, J, tm_R, tm_S, 77, 21637))
  conv at f6 => rhs; rw [f4, m_is1 _ _ _ hw, am_call_s, am_toL, b234_24, if_neg (by decide : ¬ (1 : Int32) = 0)]
  by_cases h40 : l < 40
  rotate_left
  · obtain rfl : l = 40 := by omega
    exact bad (by rw [f5, h.nl, el, if_pos (by decide : (40 : Int32) ≤ nI 40), am_call_s, am_toL, b124_47, if_pos rfl, crk _ _ _ _ 2 2 rfl (by omega), am_call_s, am_toL, b124_55]) (by rw [f6, el, if_pos (show nI 40 = 40 from rfl), mrk _ _ _ 2 2 rfl (by omega), am_call_s, am_toL, b234_41])
  have i24 : am_in (nI b) 24 := nI_in hb24 (by omega)
  have i8 : am_in (nI k) 8 := nI_in hk8 (by omega)
  have cb : (nI b).toNatClampNeg = b := nI_clamp (by omega)
  have ck : (nI k).toNatClampNeg = k := nI_clamp (by omega)
  have i16 : am_in (nI (8 * xb x + k)) 16 := nI_in (by omega) (by omega)
  have c16 : (nI (8 * xb x + k)).toNatClampNeg = 8 * xb x + k := nI_clamp (by omega)
  have f7 := Eq.refl (am_G (am_ev 100) 124 [.ref 0, .int (nI b), .int (nI k), .int (nI p)] (C, Jc, (tc_R x), tc_S, 289, 11479))
  conv at f7 => rhs; rw [f5, h.nl, el, if_neg (show ¬ (40 : Int32) ≤ nI l from nI_ge (b := 40) h40 (by omega)), h.fitC hb, am_call_s, am_toL, b16_14, am_bif]
  have f8 := Eq.refl (am_G (am_ev 100) 234 [.ref 0, .int (nI b), .int (nI k), .int (nI p)] (M, J, tm_R, tm_S, 77, 21637))
  conv at f8 => rhs; rw [f6, el, if_neg (fun q => by rw [(show (40 : Int32) = nI 40 from rfl), nI_eq (by omega) (by omega)] at q; omega), if_pos i24, m_part8, am_call_s, am_toL]; (try simp only [cb]); rw [b234_57, h.ix8, if_pos i16]; (try simp only [c16])
  by_cases hmx : M 48 b = M 8 (8 * xb x + k)
  rotate_left
  · refine bad ?_ (by rw [f8, if_neg hmx, mrk _ _ _ 2 2 rfl (by omega), am_call_s, am_toL, b234_95])
    rw [f7]
    by_cases hf : fitP M x b
    · (rw [if_pos hf, if_pos i8, if_pos i24]; (try simp only [cb]); (try simp only [ck]); rw [if_pos (tb_k hb24), gp.1, g.1, if_neg (show ¬ M 8 (8 * xb x + k) = M 48 b from fun q => hmx q.symm), am_call_s, am_toL, b124_47, if_pos rfl, crk _ _ _ _ 2 2 rfl (by omega), am_call_s, am_toL, b124_55])
    · rw [if_neg hf, am_call_s, am_toL, b124_47, if_pos rfl, crk _ _ _ _ 2 2 rfl (by omega), am_call_s, am_toL, b124_55]
  have f9 := Eq.refl (am_G (am_ev 100) 234 [.ref 0, .int (nI b), .int (nI k), .int (nI p)] (M, J, tm_R, tm_S, 77, 21637))
  conv at f9 => rhs; rw [f8, if_pos hmx, h.fitM hb, am_call_s, am_toL, b234_66, am_bif]
  by_cases hf : fitP M x b
  rotate_left
  · exact bad (by rw [f7, if_neg hf, am_call_s, am_toL, b124_47, if_pos rfl, crk _ _ _ _ 2 2 rfl (by omega), am_call_s, am_toL, b124_55]) (by rw [f9, if_neg hf, mrk _ _ _ 2 2 rfl (by omega), am_call_s, am_toL, b234_95])
  have f10 := Eq.refl (am_G (am_ev 100) 124 [.ref 0, .int (nI b), .int (nI k), .int (nI p)] (C, Jc, (tc_R x), tc_S, 289, 11479))
  conv at f10 => rhs; rw [f7, if_pos hf, if_pos i8, if_pos i24]; (try simp only [cb]); (try simp only [ck]); rw [if_pos (tb_k hb24), gp.1, g.1, if_pos hmx.symm, if_pos i24, if_pos (tb_k hb24), if_pos i8, g.2.1, gp.2.1]
  have f11 := Eq.refl (am_G (am_ev 100) 234 [.ref 0, .int (nI b), .int (nI k), .int (nI p)] (M, J, tm_R, tm_S, 77, 21637))
  conv at f11 => rhs; rw [f9, if_pos hf, if_pos i24, m_part8, am_call_s, am_toL]; (try simp only [cb]); rw [b234_85, h.ix8, if_pos i16]; (try simp only [c16])
  obtain ⟨u, hu, eu⟩ := g.2.2.2.2.2.1
  obtain ⟨v, hv, ev⟩ := gp.2.2.2.2.2.1
  have e9 : nI p * M 9 (8 * xb x + k) = nI (p * v) := by rw [ev, nI_mul]
  have hpv : p * v ≤ 60 * 99 := Nat.mul_le_mul hp hv
  by_cases hq : p * v ≤ u
  · refine ⟨nI l, x, _, _, J, ?_, ?_, h.cut el h40 hb hk hp (q := u - p * v) (by omega)⟩
    · (rw [f10, e9, eu, if_neg (nI_nlt hq (by omega)), am_call_s, am_toL, b124_47, if_neg (by decide : ¬ (1 : Int32) = 0), b17_0, if_pos i24]; (try simp only [cb]); (try simp only [ck]); rw [if_pos (tb_k hb24), if_pos i8, if_pos (tb_k hb24), g.2.1, gp.2.1, e9, eu, nI_sub (by omega) hq])
      simp (disch := omega) only [u2_c, h.nl, el]
      (rw [if_pos (nI_in h40 (by omega))]; (try simp (disch := omega) only [nI_clamp]); rw [if_pos (tl_k h40), if_pos (tl_k h40), if_pos (tl_k h40)])
      simp (disch := omega) only [u2_c, h.nl, el, nI_1, nI_pred, am_call_s, am_toL, b124_66]
      rfl
    · (rw [f11, e9, eu, if_pos (nI_le hq (by omega)), if_pos i24, m_part8, am_call_s, am_toL]; (try simp only [cb]); rw [b234_113, h.ix8, if_pos i16, if_pos i24, el, if_pos (nI_in h40 (by omega)), if_pos (nI_in h40 (by omega)), if_pos (nI_in h40 (by omega))]; (try simp only [c16]); (try simp only [cb]); rw [e9, eu, nI_sub (by omega) hq]; (try simp (disch := omega) only [nI_clamp]); rw [nI_back, nI_1])
      rfl
  · exact bad (by rw [f10, e9, eu, if_pos (nI_lt (by omega) (by omega)), am_call_s, am_toL, b124_47, if_pos rfl, crk _ _ _ _ 2 2 rfl (by omega), am_call_s, am_toL, b124_55]) (by rw [f11, e9, eu, if_neg (nI_ge (by omega) (by omega)), mrk _ _ _ 2 2 rfl (by omega), am_call_s, am_toL, b234_95])
end API4
