/-! build -/
theorem tr_w : ∀ (x : Bool) (k : Nat), k < 60 → tc_R x (150 + 2 * k) 7 = some (150 + 2 * k + 1) := by decide +kernel
theorem u2_u2 {α : Type} {I : Nat → Nat → α} {k j : Nat} {v w : α} : am_u2 (am_u2 I k j v) k j w = am_u2 I k j w := by
  funext a b
  unfold am_u2
  by_cases q : a = k ∧ b = j
  · rw [if_pos q, if_pos q]
  · rw [if_neg q, if_neg q, if_neg q]
section BLT
variable {x : Bool} {C C' M : tI} {J Jc : tJ}
theorem Rl.tfree (h : Rl x C M J) {n : Nat} (hn : Int32.toNatClampNeg (M 0 74) = n) (n60 : n < 60) (hC : ∀ a b, a ≠ 150 + 2 * n → a ≠ 150 + 2 * n + 1 → C' a b = C a b) : Rl x C' M J := by
  have hx := tc_P4 x
  have n74 := h.n74
  have n66 := h.nbB.cl (by omega)
  have n70 := h.nlB.cl (by omega)
  obtain ⟨h0, hb, hll, htt, hpp, hmm⟩ := h.H
  exact h.flr ⟨h0.fr (fun b => hC 41 b (by omega) (by omega)) (fun a b _ => rfl), hb.fr n66 (fun a b _ => hC a b (by omega) (by omega)) (fun a b _ => rfl), hll.fr n70 (fun a b _ => hC a b (by omega) (by omega)) (fun a b _ => rfl), htt.fr n74 (fun a b _ => hC a b (by omega) (by omega)) (fun a b _ => rfl), hpp.fr n74 (fun a b _ => hC a b (by omega) (by omega)) (fun a b _ => rfl), hmm.fr (fun a b _ => hC a b (by omega) (by omega)) (fun a b _ => rfl)⟩ (h.V.fr n74 (fun a b _ => hC a b (by omega) (by omega)) (fun a b _ => rfl)) (fun a b _ => hC a b (by omega) (by omega)) (fun a b _ => rfl)
/-- the greatest age -/
def odF (M : tI) (B : Int32) (b : Nat) (a : Int32) : Int32 := if bt B b = true then (if a < M 0 65 - M 50 b then M 0 65 - M 50 b else a) else a
def odS (M : tI) (B : Int32) (n : Nat) : Int32 := lp (odF M B) n 0
theorem odF_e (M : tI) (B : Int32) (b : Nat) (a : Int32) : odF M B b a = if bt B b = true then (if a < M 0 65 - M 50 b then M 0 65 - M 50 b else a) else a := rfl
theorem Rl.odC (h : Rl x C M J) (B : Int32) (d : Nat) : am_G (am_ev (d + 2)) 26 [.ref 41, .int B] (C, Jc, (tc_R x), tc_S, 289, 11479) = some (some (.int (odS M B (Int32.toNatClampNeg (M 0 66)))), (C, Jc, (tc_R x), tc_S, 289, 11479)) := by
  have nb := h.nbB.cl (by omega)
  have eb := h.nbB.eq (by omega)
  have run := lp_run (fun (a : Int32) l => am_ev (d + 2) 26 4 [.ref 41, .int B, .int a, .int (nI l)] [] (C, Jc, (tc_R x), tc_S, 289, 11479)) (Int32.toNatClampNeg (M 0 66)) (odF M B) (by
    intro a l hl
    try dsimp only
    have gl : ¬ M 0 66 ≤ nI l := by rw [eb]; exact nI_ge hl (by omega)
    rw [b26_4, h.nb, if_neg gl, nI_1, odF_e]
    by_cases q : bt B l = true
    · rw [if_pos q, if_neg (fun w => by rw [bt_and _ _ (by omega)] at w; rw [w] at q; cases q), h.ageC hl, am_call_s, am_toL, b26_26, b288_0]
      by_cases q2 : a < M 0 65 - M 50 l
      · rw [if_pos q2, if_pos q2, am_call_s, am_toL, b26_29, nI_1]
      · rw [if_neg q2, if_neg q2, am_call_s, am_toL, b26_29, nI_1]
    · rw [if_neg q, if_pos ((bt_and _ _ (by omega)).mpr (Bool.eq_false_iff.mpr q))]) 0
  try dsimp only at run
  rw [b26_0]
  refine run.trans ?_
  rw [b26_4, h.nb, if_pos (by rw [← eb]; exact Int32.le_refl _)]
  rfl
theorem Rl.odB (h : Rl x C M J) (B : Int32) : ∀ n, n ≤ Int32.toNatClampNeg (M 0 66) → bd (odS M B n) 9999 := by
  intro n
  induction n with
  | zero => intro _; exact ⟨0, by omega, rfl⟩
  | succ n ih =>
    intro hn
    have e : odS M B (n + 1) = odF M B n (odS M B n) := rfl
    have g := h.H.2.1 n (by omega)
    obtain ⟨t, ht, et⟩ := h.hourB
    obtain ⟨m, hm, em⟩ := g.2.2.2.2.2.2.1
    have mt := g.2.2.2.2.2.2.2
    (rw [em, et] at mt; (try simp (disch := omega) only [nI_clamp] at mt))
    rw [e, odF_e]
    split
    · split
      · rw [em, et, nI_sub (by omega) mt]; exact bd_nI (by omega)
      · exact ih (by omega)
    · exact ih (by omega)
def addC (C : tI) (n s : Nat) (od : Int32) : tI := am_u2 (am_u2 (am_u2 (am_u2 C (150 + 2 * n) 3 od) 82 n 0) 41 2 (nI s)) 41 10 (nI (n + 1))
def addM (M : tI) (n s : Nat) (B od : Int32) : tI := am_u2 (am_u2 (am_u2 (am_u2 (am_u2 (am_u2 (am_u2 (am_u2 (am_u2 (am_u2 (am_u2 M 0 74 (nI (n + 1))) 54 n (nI s)) 55 n 0) 56 n (M 0 65)) 57 n B) 58 n od) 59 n (-1)) 60 n (-1)) 61 n (-1)) 62 n (-1)) 0 89 (nI s)
theorem Rl.addT (h : Rl x C M J) {n s : Nat} {B od : Int32} (hn : M 0 74 = nI n) (n60 : n < 60) (hs : s < Int32.toNatClampNeg (M 11 (xb x))) (hod : bd od 9999) (c0 : C (150 + 2 * n) 0 = nI s) (c1 : C (150 + 2 * n) 1 = M 0 65) (c2 : C (150 + 2 * n) 2 = B) (c4 : C (150 + 2 * n) 4 = -1) (c5 : C (150 + 2 * n) 5 = -1) (c6 : C (150 + 2 * n) 6 = -1) (cw : ∀ i, i < 8 → C (150 + 2 * n + 1) i = 0) : Rl x (addC C n s od) (addM M n s B od) J := by
  have hx := tc_P4 x
  have b11 := h.n11.2.cl (by omega)
  have n66 := h.nbB.cl (by omega)
  have n70 := h.nlB.cl (by omega)
  obtain ⟨h0, hb, hll, htt, hpp, hmm⟩ := h.H
  have c74 : Int32.toNatClampNeg (M 0 74) = n := by rw [hn]; exact nI_clamp (by omega)
  have fC : ∀ a b, (a = 150 + 2 * n → b ≠ 3) → (a = 82 → b ≠ n) → (a = 41 → b ≠ 2 ∧ b ≠ 10) → addC C n s od a b = C a b := fun a b q1 q2 q3 => fr2 (by omega) (by omega) (by omega) (by omega)
  have fM : ∀ a b, (a = 0 → b ≠ 74 ∧ b ≠ 89) → (54 ≤ a ∧ a ≤ 62 → b ≠ n) → addM M n s B od a b = M a b := by
    intro a b q1 q2
    unfold addM
    rw [fr1 (by omega), fr1 (by omega), fr1 (by omega), fr1 (by omega), fr1 (by omega), fr1 (by omega), fr1 (by omega), fr1 (by omega), fr1 (by omega), fr1 (by omega), fr1 (by omega)]
  have gM : ∀ a b, a ≠ 0 → (a < 54 ∨ 62 < a) → addM M n s B od a b = M a b := fun a b q1 q2 => fM a b (by omega) (by omega)
  have u74 : addM M n s B od 0 74 = nI (n + 1) := by unfold addM; simp (disch := omega) only [u2_c, u2_p, u2_s]
  have d74 : Int32.toNatClampNeg (addM M n s B od 0 74) = n + 1 := by rw [u74]; exact nI_clamp (by omega)
  have u89 : addM M n s B od 0 89 = nI s := u2_s
  have m54 : addM M n s B od 54 n = nI s := by unfold addM; simp (disch := omega) only [u2_c, u2_p, u2_s]
  have m55 : addM M n s B od 55 n = 0 := by unfold addM; simp (disch := omega) only [u2_c, u2_p, u2_s]
  have m56 : addM M n s B od 56 n = M 0 65 := by unfold addM; simp (disch := omega) only [u2_c, u2_p, u2_s]
  have m57 : addM M n s B od 57 n = B := by unfold addM; simp (disch := omega) only [u2_c, u2_p, u2_s]
  have m58 : addM M n s B od 58 n = od := by unfold addM; simp (disch := omega) only [u2_c, u2_p, u2_s]
  have m59 : addM M n s B od 59 n = -1 := by unfold addM; simp (disch := omega) only [u2_c, u2_p, u2_s]
  have m60 : addM M n s B od 60 n = -1 := by unfold addM; simp (disch := omega) only [u2_c, u2_p, u2_s]
  have m61 : addM M n s B od 61 n = -1 := by unfold addM; simp (disch := omega) only [u2_c, u2_p, u2_s]
  have m62 : addM M n s B od 62 n = -1 := by unfold addM; simp (disch := omega) only [u2_c, u2_p, u2_s]
  have a3 : addC C n s od (150 + 2 * n) 3 = od := by unfold addC; simp (disch := omega) only [u2_c, u2_p, u2_s]
  have a82 : addC C n s od 82 n = 0 := by unfold addC; simp (disch := omega) only [u2_c, u2_p, u2_s]
  have a2 : addC C n s od 41 2 = nI s := by unfold addC; simp (disch := omega) only [u2_c, u2_p, u2_s]
  have a10 : addC C n s od 41 10 = nI (n + 1) := by unfold addC; simp (disch := omega) only [u2_c, u2_p, u2_s]
  have tn : ∀ p, p < 4 → M 65 p ≠ -1 → Int32.toNatClampNeg (M 65 p) < n := by
    intro p hp w
    have := ((hpp.1 p hp).2.2.2.2.resolve_left w).2.1
    omega
  refine h.flr ⟨?_, ?_, ?_, ?_, ?_, ?_⟩ ?_ (fun a b _ => fC a b (by omega) (by omega) (by omega)) (fun a b _ => fM a b (by omega) (by omega))
  · unfold rl_H0 at h0 ⊢
    rw [a2, a10, u74, u89, fC 41 1 (by omega) (by omega) (by omega), fC 41 3 (by omega) (by omega) (by omega), fC 41 5 (by omega) (by omega) (by omega), fC 41 7 (by omega) (by omega) (by omega), fM 0 65 (by omega) (by omega), fM 0 90 (by omega) (by omega), fM 0 66 (by omega) (by omega), fM 0 70 (by omega) (by omega), gM 11 _ (by omega) (by omega)]
    refine ⟨h0.1, h0.2.1, rfl, Or.inr ⟨bd_nI (by omega), by ((try simp (disch := omega) only [nI_clamp])); exact hs⟩, h0.2.2.2.2.1, h0.2.2.2.2.2.1, h0.2.2.2.2.2.2.1, h0.2.2.2.2.2.2.2.1, h0.2.2.2.2.2.2.2.2.1, rfl, bd_nI (by omega)⟩
  · exact hb.fr n66 (fun a b _ => fC a b (by omega) (by omega) (by omega)) (fun a b _ => fM a b (by omega) (by omega))
  · exact hll.fr n70 (fun a b _ => fC a b (by omega) (by omega) (by omega)) (fun a b _ => fM a b (by omega) (by omega))
  · intro u hu
    rw [d74] at hu
    rw [fM 0 65 (by omega) (by omega), gM 11 _ (by omega) (by omega), gM 13 _ (by omega) (by omega)]
    by_cases e : u = n
    · subst e
      rw [fC _ 0 (by omega) (by omega) (by omega), fC _ 1 (by omega) (by omega) (by omega), fC _ 2 (by omega) (by omega) (by omega), fC _ 4 (by omega) (by omega) (by omega), fC _ 5 (by omega) (by omega) (by omega), fC _ 6 (by omega) (by omega) (by omega), a3, a82, m54, m55, m56, m57, m58, m59, m60, m61, m62, c0, c1, c2, c4, c5, c6]
      exact ⟨rfl, rfl, rfl, rfl, rfl, rfl, rfl, bd_nI (by omega), by ((try simp (disch := omega) only [nI_clamp])); exact hs, ⟨0, by omega, rfl⟩, h.hourB, Nat.le_refl _, hod, Or.inl rfl, Or.inl rfl, Or.inl ⟨rfl, rfl, rfl, Or.inl rfl⟩⟩
    · have g := htt u (by omega)
      rw [fC _ 0 (by omega) (by omega) (by omega), fC _ 1 (by omega) (by omega) (by omega), fC _ 2 (by omega) (by omega) (by omega), fC (150 + 2 * u) 3 (by omega) (by omega) (by omega), fC _ 4 (by omega) (by omega) (by omega), fC _ 5 (by omega) (by omega) (by omega), fC _ 6 (by omega) (by omega) (by omega), fC 82 u (by omega) (by omega) (by omega), fM 54 u (by omega) (by omega), fM 55 u (by omega) (by omega), fM 56 u (by omega) (by omega), fM 57 u (by omega) (by omega), fM 58 u (by omega) (by omega), fM 59 u (by omega) (by omega), fM 60 u (by omega) (by omega), fM 61 u (by omega) (by omega), fM 62 u (by omega) (by omega)]
      exact g
  · unfold rl_Hp
    rw [d74, fM 0 65 (by omega) (by omega)]
    simp only [fun b => gM 13 b (by omega) (by omega), fun b => gM 20 b (by omega) (by omega), fun b => gM 22 b (by omega) (by omega), fun b => gM 64 b (by omega) (by omega), fun b => gM 65 b (by omega) (by omega), fun b => gM 66 b (by omega) (by omega)]
    refine ⟨fun p hp => ?_, hpp.2.1, fun u hu hu1 => ?_⟩
    · have g := hpp.1 p hp
      rw [fC (270 + p) 0 (by omega) (by omega) (by omega), fC (270 + p) 1 (by omega) (by omega) (by omega), fC (270 + p) 2 (by omega) (by omega) (by omega)]
      refine ⟨g.1, g.2.1, g.2.2.1, g.2.2.2.1, ?_⟩
      rcases g.2.2.2.2 with w | w
      · exact Or.inl w
      · refine Or.inr ?_
        have := tn p hp (by rw [w.1.eq (by omega)]; exact nI_ne (by have := w.2.1; omega))
        rw [fM 55 _ (by omega) (by omega), fM 54 _ (by omega) (by omega), fC _ 6 (by omega) (by omega) (by omega)]
        exact ⟨w.1, by omega, w.2.2⟩
    · by_cases e : u = n
      · subst e; rw [m55] at hu1; exact absurd hu1 (by decide)
      · rw [fM 55 u (by omega) (by omega)] at hu1
        exact hpp.2.2 u (by omega) hu1
  · exact hmm.fr (fun a b _ => fC a b (by omega) (by omega) (by omega)) (fun a b _ => fM a b (by omega) (by omega))
  · obtain ⟨v1, v2, v3⟩ := h.V
    unfold rl_V
    rw [d74]
    simp only [fun b => gM 63 b (by omega) (by omega), fun b => fC 286 b (by omega) (by omega) (by omega)]
    refine ⟨v1, fun t i ht hi => ?_, fun t i ht hi => ⟨(v3 t i ht hi).1, fun w => (v3 t i ht hi).2 (by omega)⟩⟩
    rw [fC (150 + 2 * t + 1) i (by omega) (by omega) (by omega)]
    by_cases e : t = n
    · subst e; rw [cw i hi, (v3 t i n60 hi).2 (by omega)]
    · exact v2 t i (by omega) hi
end BLT
