/-! mix, cut, scrap, clean, mount; mould, needs, change -/
theorem mrk (d : Nat) (I : tI) (J : tJ) (k : Int32) (n : Nat) (hk : k = nI n) (h : n < 6) : am_G (am_ev (d + 1)) 203 [.ref 0, .int k] (I, J, tm_R, tm_S, 77, 21637) = some (some (.int (-1)), (am_u2 I 45 n (I 45 n + 1), J, tm_R, tm_S, 77, 21637)) := by rw [hk]; exact m_refuses d I J n h
theorem crk (d : Nat) (I : tI) (J : tJ) (x : Bool) (k : Int32) (n : Nat) (hk : k = nI n) (h : n < 6) : am_G (am_ev (d + 1)) 110 [.ref 0, .int k] (I, J, (tc_R x), tc_S, 289, 11479) = some (some (.int (-1)), (am_u2 I 288 n (I 288 n + 1), J, (tc_R x), tc_S, 289, 11479)) := by rw [hk]; exact c_refuse d I J x n h
theorem nI_ne {k : Nat} (h : k < 2 ^ 31) : ¬ nI k = -1 := by
  intro w
  rw [i_eq, nI_toInt h] at w
  have : (-1 : Int32).toInt = -1 := rfl
  omega
theorem nI_back (n : Nat) : nI n + 1 - 1 = nI n := by rw [nI_1, nI_pred]
theorem fr2 {C : tI} {k1 j1 k2 j2 k3 j3 k4 j4 a b : Nat} {v1 v2 v3 v4 : Int32} (h1 : a ≠ k1 ∨ b ≠ j1) (h2 : a ≠ k2 ∨ b ≠ j2) (h3 : a ≠ k3 ∨ b ≠ j3) (h4 : a ≠ k4 ∨ b ≠ j4) : am_u2 (am_u2 (am_u2 (am_u2 C k1 j1 v1) k2 j2 v2) k3 j3 v3) k4 j4 v4 a b = C a b := by
  unfold am_u2
  rw [if_neg (by omega), if_neg (by omega), if_neg (by omega), if_neg (by omega)]
theorem fr1 {C : tI} {k1 j1 a b : Nat} {v1 : Int32} (h1 : a ≠ k1 ∨ b ≠ j1) : am_u2 C k1 j1 v1 a b = C a b := by
  unfold am_u2
  rw [if_neg (by omega)]
section API3
variable {x : Bool} {C M : tI} {J Jc : tJ}
def mixC (C : tI) (n : Nat) (a w t : Int32) : tI := am_u2 (am_u2 (am_u2 (am_u2 C (86 + n) 0 a) (86 + n) 1 w) (86 + n) 2 t) 41 5 (nI (n + 1))
def mixM (M : tI) (n : Nat) (a w t : Int32) : tI := am_u2 (am_u2 (am_u2 (am_u2 M 48 n a) 49 n w) 50 n t) 0 66 (nI (n + 1))
theorem Rl.mix (h : Rl x C M J) {n k p : Nat} (hn : M 0 66 = nI n) (h24 : n < 24) (hk : k < Int32.toNatClampNeg (M 2 (xb x))) (hp : p ≤ 999) : Rl x (mixC C n (nI k) (nI p) (M 0 65)) (mixM M n (nI k) (nI p) (M 0 65)) J := by
  have hx := tc_P4 x
  have hk6 := h.Pc.1.2.cl (by omega)
  have n74 := h.n74
  obtain ⟨h0, hb, hl, ht, hpp, hm⟩ := h.H
  have n70 := h.nlB.cl (by omega)
  have cn66 : Int32.toNatClampNeg (M 0 66) = n := by rw [hn]; exact nI_clamp (by omega)
  have u66 : mixM M n (nI k) (nI p) (M 0 65) 0 66 = nI (n + 1) := u2_s
  have c66 : Int32.toNatClampNeg (mixM M n (nI k) (nI p) (M 0 65) 0 66) = n + 1 := by rw [u66]; exact nI_clamp (by omega)
  have fC : ∀ a b, a ≠ 86 + n → (a = 41 → b ≠ 5) → mixC C n (nI k) (nI p) (M 0 65) a b = C a b := fun a b q1 q2 => fr2 (by omega) (by omega) (by omega) (by omega)
  have fM : ∀ a b, a < 48 ∨ 50 < a → (a = 0 → b ≠ 66) → mixM M n (nI k) (nI p) (M 0 65) a b = M a b := fun a b q1 q2 => fr2 (by omega) (by omega) (by omega) (by omega)
  refine h.flr ⟨?_, ?_, ?_, ?_, ?_, ?_⟩ (h.V.fr n74 (fun a b _ => fC a b (by omega) (by omega)) (fun a b _ => fM a b (by omega) (by omega))) (fun a b _ => fC a b (by omega) (by omega)) (fun a b _ => fM a b (by omega) (by omega))
  · unfold rl_H0
    rw [u66]
    simp only [fC 41 1 (by omega) (by omega), fC 41 2 (by omega) (by omega), fC 41 3 (by omega) (by omega), fC 41 7 (by omega) (by omega), fC 41 10 (by omega) (by omega), fM 0 65 (by omega) (by omega), fM 0 89 (by omega) (by omega), fM 0 90 (by omega) (by omega), fM 0 70 (by omega) (by omega), fM 0 74 (by omega) (by omega), fun b => fM 11 b (by omega) (by omega)]
    unfold rl_H0 at h0
    exact ⟨h0.1, h0.2.1, h0.2.2.1, h0.2.2.2.1, h0.2.2.2.2.1, u2_s, bd_nI (by omega), h0.2.2.2.2.2.2.2⟩
  · intro b hb'
    ((try simp only [c66] at hb'))
    rw [fM 2 _ (by omega) (by omega), fM 0 65 (by omega) (by omega)]
    by_cases e : b = n
    · subst e
      have e1 : mixC C b (nI k) (nI p) (M 0 65) (86 + b) 0 = nI k := by unfold mixC; rw [u2_c (by omega), u2_p (by omega), u2_p (by omega), u2_s]
      have e2 : mixC C b (nI k) (nI p) (M 0 65) (86 + b) 1 = nI p := by unfold mixC; rw [u2_c (by omega), u2_p (by omega), u2_s]
      have e3 : mixC C b (nI k) (nI p) (M 0 65) (86 + b) 2 = M 0 65 := by unfold mixC; rw [u2_c (by omega), u2_s]
      have e4 : mixM M b (nI k) (nI p) (M 0 65) 48 b = nI k := by unfold mixM; rw [u2_c (by omega), u2_c (by omega), u2_c (by omega), u2_s]
      have e5 : mixM M b (nI k) (nI p) (M 0 65) 49 b = nI p := by unfold mixM; rw [u2_c (by omega), u2_c (by omega), u2_s]
      have e6 : mixM M b (nI k) (nI p) (M 0 65) 50 b = M 0 65 := by unfold mixM; rw [u2_c (by omega), u2_s]
      rw [e1, e2, e3, e4, e5, e6]
      refine ⟨rfl, rfl, rfl, bd_nI (by omega), ?_, bd_nI hp, h.hourB, Nat.le_refl _⟩
      ((try simp (disch := omega) only [nI_clamp])); exact hk
    · have g := hb b (by omega)
      have e4 : mixM M n (nI k) (nI p) (M 0 65) 48 b = M 48 b := by unfold mixM; rw [u2_c (by omega), u2_c (by omega), u2_c (by omega), u2_p e]
      have e5 : mixM M n (nI k) (nI p) (M 0 65) 49 b = M 49 b := by unfold mixM; rw [u2_c (by omega), u2_c (by omega), u2_p e, u2_c (by omega)]
      have e6 : mixM M n (nI k) (nI p) (M 0 65) 50 b = M 50 b := by unfold mixM; rw [u2_c (by omega), u2_p e, u2_c (by omega), u2_c (by omega)]
      rw [fC _ 0 (by omega) (by omega), fC _ 1 (by omega) (by omega), fC _ 2 (by omega) (by omega), e4, e5, e6]
      exact g
  · intro l hl'
    rw [fM 0 70 (by omega) (by omega)] at hl'
    have g := hl l hl'
    ((try simp only [c66]); rw [fC _ 0 (by omega) (by omega), fC _ 1 (by omega) (by omega), fC _ 2 (by omega) (by omega), fM 51 l (by omega) (by omega), fM 52 l (by omega) (by omega), fM 53 l (by omega) (by omega), fM 6 _ (by omega) (by omega)])
    exact ⟨g.1, g.2.1, g.2.2.1, g.2.2.2.1, g.2.2.2.2.1, g.2.2.2.2.2.1, by have := g.2.2.2.2.2.2.1; omega, g.2.2.2.2.2.2.2⟩
  · exact ht.fr n74 (fun a b _ => fC a b (by omega) (by omega)) (fun a b _ => fM a b (by omega) (by omega))
  · exact hpp.fr n74 (fun a b _ => fC a b (by omega) (by omega)) (fun a b _ => fM a b (by omega) (by omega))
  · exact hm.fr (fun a b _ => fC a b (by omega) (by omega)) (fun a b _ => fM a b (by omega) (by omega))
theorem k_mix (h : Rl x C M J) (a w : Int32) : Lk 123 233 [.int a, .int w] x C M Jc J := by
  have bad := fun e1 e2 => (⟨-1, x, _, _, J, e1, e2, h.ref 2 (by omega)⟩ : Lk 123 233 [.int a, .int w] x C M Jc J)
  obtain ⟨n, hn, en⟩ := h.nbB
  rcases h.kind (Jc := Jc) (q := 0) (by omega) a 98 97 with ⟨e1, e2⟩ | ⟨k, hk, rfl, hk6, e1, e2⟩
  · exact bad (by rw [b123_0, (show (0 : Int32) = nI 0 from rfl), e1, am_call_s, am_toL, b123_12, if_pos rfl, crk _ _ _ _ 2 2 rfl (by omega), am_call_s, am_toL, b123_44]) (by rw [b233_0, (show (0 : Int32) = nI 0 from rfl), e2, am_call_s, am_toL, b233_6, if_pos rfl, mrk _ _ _ 2 2 rfl (by omega), am_call_s, am_toL, b233_34])
  · have f1 := Eq.refl (am_G (am_ev 100) 123 [.ref 0, .int (nI k), .int w] (C, Jc, (tc_R x), tc_S, 289, 11479))
    conv at f1 => rhs; rw [b123_0, (show (0 : Int32) = nI 0 from rfl), e1, am_call_s, am_toL, b123_12, if_neg (by decide : ¬ (1 : Int32) = 0)]
    have f2 := Eq.refl (am_G (am_ev 100) 233 [.ref 0, .int (nI k), .int w] (M, J, tm_R, tm_S, 77, 21637))
    conv at f2 => rhs; rw [b233_0, (show (0 : Int32) = nI 0 from rfl), e2, am_call_s, am_toL, b233_6, if_neg (by decide : ¬ (1 : Int32) = 0)]
    by_cases hw : 1 ≤ w ∧ w ≤ 999
    · have w1 : ¬ w < 1 := Int32.not_lt.mpr hw.1
      have w2 : ¬ 999 < w := Int32.not_lt.mpr hw.2
      by_cases h24 : n < 24
      · have i24 : am_in (nI n) 24 := nI_in h24 (by omega)
        obtain ⟨p, hp, ep⟩ : ∃ p, p ≤ 999 ∧ w = nI p := by
          obtain ⟨p, hp, ep⟩ := nI_of (x := w) (by rw [i_lt] at w1 ⊢; have : (0 : Int32).toInt = 0 := rfl; have : (1 : Int32).toInt = 1 := rfl; omega)
          refine ⟨p, ?_, ep⟩
          have q := hw.2
          rw [ep, (show (999 : Int32) = nI 999 from rfl), nI_leI hp (by omega)] at q; exact q
        subst ep
        refine ⟨nI n, x, _, _, J, ?_, ?_, h.mix en h24 hk hp⟩
        · (rw [f1, if_neg w1, if_neg w2, h.nb, en, if_pos (show nI n < (24 : Int32) from nI_lt (b := 24) h24 (by omega)), b15_0, h.nb, en, if_pos i24]; (try simp (disch := omega) only [nI_clamp]); rw [if_pos (tb_k h24), if_pos (tb_k h24), if_pos (tb_k h24)])
          simp (disch := omega) only [u2_c, h.nb, en, h.hour, nI_1, nI_pred, am_call_s, am_toL, b123_54]
          rfl
        · (rw [f2, m_is1 _ _ _ hw, am_call_s, am_toL, b233_17, if_neg (by decide : ¬ (1 : Int32) = 0), en, if_neg (fun q => by rw [(show (24 : Int32) = nI 24 from rfl), nI_eq (by omega) (by omega)] at q; omega), if_pos i24, if_pos i24, if_pos i24]; (try simp (disch := omega) only [nI_clamp]); rw [nI_back, nI_1])
          rfl
      · obtain rfl : n = 24 := by omega
        exact bad (by rw [f1, if_neg w1, if_neg w2, h.nb, en, if_neg (by decide : ¬ nI 24 < 24), crk _ _ _ _ 2 2 rfl (by omega), am_call_s, am_toL, b123_44]) (by rw [f2, m_is1 _ _ _ hw, am_call_s, am_toL, b233_17, if_neg (by decide : ¬ (1 : Int32) = 0), en, if_pos (show nI 24 = 24 from rfl), mrk _ _ _ 2 2 rfl (by omega), am_call_s, am_toL, b233_34])
    · refine bad ?_ (by rw [f2, m_is0 _ _ _ hw, am_call_s, am_toL, b233_17, if_pos rfl, mrk _ _ _ 2 2 rfl (by omega), am_call_s, am_toL, b233_34])
      rw [f1]
      by_cases w1 : w < 1
      · rw [if_pos w1, crk _ _ _ _ 2 2 rfl (by omega), am_call_s, am_toL, b123_44]
      · rw [if_neg w1, if_pos (Int32.not_le.mp (fun q => hw ⟨Int32.not_lt.mp w1, q⟩)), crk _ _ _ _ 2 2 rfl (by omega), am_call_s, am_toL, b123_44]
end API3
