/-! an hour goes by on both sides; hours -/
section HRS
variable {x : Bool} {C M : tI} {J Jc : tJ}
theorem nI_inj {a b : Nat} (ha : a < 2 ^ 31) (hb : b < 2 ^ 31) (h : nI a = nI b) : a = b := (nI_eq ha hb).mp h
theorem Rl.frE (h : Rl x C M J) {t : Nat} (ht : M 0 65 = nI t) (hl : t < 9999) {p : Nat} (hp : p < 4) : cFr C (t + 1) p ↔ mFr M (t + 1) p := by
  have g := h.H.2.2.2.2.1.1 p hp
  unfold cFr mFr
  rw [g.2.1]
  rcases g.2.2.2.2 with w | w
  · exact ⟨fun q => absurd w q.1, fun q => absurd w q.1⟩
  · obtain ⟨f, hf, ef⟩ := w.2.2.2.2.2.1
    have lt := w.2.2.2.2.2.2.1
    rw [ht, ef] at lt
    simp (disch := omega) only [nI_clamp] at lt
    rw [w.2.2.2.2.1, ef, nI_ltI (by omega) (by omega), nI_eq (by omega) (by omega)]
    exact and_congr Iff.rfl (by omega)
theorem Rl.fcE (h : Rl x C M J) {t : Nat} (ht : M 0 65 = nI t) (hl : t < 9999) : ∀ k, k ≤ 4 → fcn C (t + 1) k = mcn M (t + 1) k := by
  intro k
  induction k with
  | zero => intro _; rfl
  | succ k ih => intro hk; rw [fcn_s, mcn_s, ih (by omega), cite_c (h.frE ht hl (by omega))]
theorem Rl.hr (h : Rl x C M J) {t n : Nat} (ht : M 0 65 = nI t) (hl : t < 9999) (hn : M 20 (xb x) = nI n) (h4 : n ≤ 4) : Rl x (pass C n (t + 1)) (hgM M n (t + 1)) J := by
  have hx := tc_P4 x
  have n74 := h.n74
  have n66 := h.nbB.cl (by omega)
  have n70 := h.nlB.cl (by omega)
  obtain ⟨h0, hb, hll, htt, hpp, hmm⟩ := h.H
  have c20 : Int32.toNatClampNeg (M 20 (xb x)) = n := by rw [hn]; exact nI_clamp (by omega)
  have c65 : Int32.toNatClampNeg (M 0 65) = t := by rw [ht]; exact nI_clamp (by omega)
  have d65 : Int32.toNatClampNeg (hgM M n (t + 1) 0 65) = t + 1 := by rw [hgM_h]; exact nI_clamp (by omega)
  have fC : ∀ a b, a ≠ 82 → (270 ≤ a ∧ a < 274 → b ≠ 1) → (a = 41 → b ≠ 1) → pass C n (t + 1) a b = C a b := fun a b q1 q2 q3 => pass_f q1 (fun w => q2 (by omega)) q3
  have fM : ∀ a b, a ≠ 55 → a ≠ 62 → a ≠ 65 → (a = 0 → b ≠ 65) → hgM M n (t + 1) a b = M a b := fun a b q1 q2 q3 q4 => hgM_f q1 q2 (fun w => absurd w q3) q4
  have frE : ∀ p, p < 4 → (cFr C (t + 1) p ↔ mFr M (t + 1) p) := fun p hp => h.frE ht hl hp
  have dis : ∀ p q, p < 4 → q < 4 → M 65 p ≠ -1 → M 65 q ≠ -1 → Int32.toNatClampNeg (M 65 p) = Int32.toNatClampNeg (M 65 q) → p = q := by
    intro p q hp hq w1 w2 e
    have g1 := (hpp.1 p hp).2.2.2.2.resolve_left w1
    have g2 := (hpp.1 q hq).2.2.2.2.resolve_left w2
    have e1 := g1.1.eq (by omega)
    have e2 := g2.1.eq (by omega)
    have e3 : M 65 p = M 65 q := by rw [e1, e2, e]
    rcases Nat.lt_trichotomy p q with z | z | z
    · rcases (hpp.2.1 p q z hq).2 with y | y
      · exact absurd y w1
      · exact absurd e3 y
    · exact z
    · rcases (hpp.2.1 q p z hp).2 with y | y
      · exact absurd y w2
      · exact absurd e3.symm y
  have eT : ∀ p, p < 4 → C (270 + p) 1 = M 65 p := fun p hp => (hpp.1 p hp).2.1
  -- a tyre that comes out
  have out : ∀ u, (∃ p, p < n ∧ mFr M (t + 1) p ∧ Int32.toNatClampNeg (M 65 p) = u) → pass C n (t + 1) 82 u = 2 ∧ hgM M n (t + 1) 55 u = 2 ∧ hgM M n (t + 1) 62 u = nI (t + 1) := by
    rintro u ⟨p, hp, hf, rfl⟩
    refine ⟨?_, hgM_sy hp hf, hgM_cy hp hf⟩
    have := pass_sy (C := C) hp ((frE p (by omega)).mpr hf)
    rw [eT p (by omega)] at this; exact this
  have inn : ∀ u, (¬ ∃ p, p < n ∧ mFr M (t + 1) p ∧ Int32.toNatClampNeg (M 65 p) = u) → pass C n (t + 1) 82 u = C 82 u ∧ hgM M n (t + 1) 55 u = M 55 u ∧ hgM M n (t + 1) 62 u = M 62 u := by
    intro u hu
    refine ⟨pass_sn (fun p hp hf e => ?_), hgM_sn (fun p hp hf e => hu ⟨p, hp, hf, e⟩), hgM_cn (fun p hp hf e => hu ⟨p, hp, hf, e⟩)⟩
    rw [eT p (by omega)] at e
    exact hu ⟨p, hp, (frE p (by omega)).mp hf, e⟩
  refine h.flr ⟨?_, ?_, hll.fr n70 (fun a b _ => fC a b (by omega) (by omega) (by omega)) (fun a b _ => fM a b (by omega) (by omega) (by omega) (by omega)), ?_, ?_, hmm.fr (fun a b _ => fC a b (by omega) (by omega) (by omega)) (fun a b _ => fM a b (by omega) (by omega) (by omega) (by omega))⟩ (h.V.fr n74 (fun a b _ => fC a b (by omega) (by omega) (by omega)) (fun a b _ => fM a b (by omega) (by omega) (by omega) (by omega))) (fun a b _ => fC a b (by omega) (by omega) (by omega)) (fun a b _ => fM a b (by omega) (by omega) (by omega) (by omega))
  · unfold rl_H0 at h0 ⊢
    rw [pass_h, hgM_h, fC 41 2 (by omega) (by omega) (by omega), fC 41 3 (by omega) (by omega) (by omega), fC 41 5 (by omega) (by omega) (by omega), fC 41 7 (by omega) (by omega) (by omega), fC 41 10 (by omega) (by omega) (by omega), fM 0 89 (by omega) (by omega) (by omega) (by omega), fM 0 90 (by omega) (by omega) (by omega) (by omega), fM 0 66 (by omega) (by omega) (by omega) (by omega), fM 0 70 (by omega) (by omega) (by omega) (by omega), fM 0 74 (by omega) (by omega) (by omega) (by omega), fM 11 _ (by omega) (by omega) (by omega) (by omega)]
    exact ⟨rfl, bd_nI (by omega), h0.2.2⟩
  · intro b hb'
    rw [fM 0 66 (by omega) (by omega) (by omega) (by omega)] at hb'
    have g := hb b hb'
    rw [d65, fC _ 0 (by omega) (by omega) (by omega), fC _ 1 (by omega) (by omega) (by omega), fC _ 2 (by omega) (by omega) (by omega), fM 48 _ (by omega) (by omega) (by omega) (by omega), fM 49 _ (by omega) (by omega) (by omega) (by omega), fM 50 _ (by omega) (by omega) (by omega) (by omega), fM 2 _ (by omega) (by omega) (by omega) (by omega)]
    rw [c65] at g
    exact ⟨g.1, g.2.1, g.2.2.1, g.2.2.2.1, g.2.2.2.2.1, g.2.2.2.2.2.1, g.2.2.2.2.2.2.1, by have := g.2.2.2.2.2.2.2; omega⟩
  · intro u hu
    rw [fM 0 74 (by omega) (by omega) (by omega) (by omega)] at hu
    have g := htt u hu
    rw [c65] at g
    simp only [fun b => fC (150 + 2 * u) b (by omega) (by omega) (by omega), fun b => fM 54 b (by omega) (by omega) (by omega) (by omega), fun b => fM 56 b (by omega) (by omega) (by omega) (by omega), fun b => fM 57 b (by omega) (by omega) (by omega) (by omega), fun b => fM 58 b (by omega) (by omega) (by omega) (by omega), fun b => fM 59 b (by omega) (by omega) (by omega) (by omega), fun b => fM 60 b (by omega) (by omega) (by omega) (by omega), fun b => fM 61 b (by omega) (by omega) (by omega) (by omega), fun b => fM 11 b (by omega) (by omega) (by omega) (by omega), fun b => fM 13 b (by omega) (by omega) (by omega) (by omega), d65]
    obtain ⟨g1, g2, g3, g4, g5, g6, g7, g8, g9, g10, g11, g12, g13, g14, g15, g16⟩ := g
    by_cases q : ∃ p, p < n ∧ mFr M (t + 1) p ∧ Int32.toNatClampNeg (M 65 p) = u
    · obtain ⟨o1, o2, o3⟩ := out u q
      obtain ⟨p, hp, hf, e⟩ := q
      have w := (hpp.1 p (by omega)).2.2.2.2.resolve_left hf.1
      rw [e] at w
      rw [o1, o2, o3]
      refine ⟨g1, rfl, g3, g4, g5, g6, g7, g8, g9, ⟨2, by omega, rfl⟩, g11, by omega, g13, g14, g15, Or.inr ?_⟩
      rcases g16 with r | r
      · exfalso
        rcases r.2.2.2 with z | z
        · rw [w.2.2.1] at z; exact absurd z (by decide)
        · rw [w.2.2.1] at z; exact absurd z (by decide)
      · refine ⟨r.1, r.2.1, by have := r.2.2.1; omega, r.2.2.2.1, by decide, r.2.2.2.2.2.1, r.2.2.2.2.2.2.1, fun _ => ⟨?_, bd_nI (by omega), by ((try simp (disch := omega) only [nI_clamp])); exact Nat.le_refl _⟩, fun z => absurd z (by decide)⟩
        rw [← hf.2]; exact w.2.2.2.2.2.2.2
    · obtain ⟨o1, o2, o3⟩ := inn u q
      rw [o1, o2, o3]
      refine ⟨g1, g2, g3, g4, g5, g6, g7, g8, g9, g10, g11, by omega, g13, g14, g15, ?_⟩
      rcases g16 with r | r
      · exact Or.inl r
      · refine Or.inr ⟨r.1, r.2.1, by have := r.2.2.1; omega, r.2.2.2.1, r.2.2.2.2.1, r.2.2.2.2.2.1, r.2.2.2.2.2.2.1, fun z => ?_, r.2.2.2.2.2.2.2.2⟩
        have y := r.2.2.2.2.2.2.2.1 z
        exact ⟨y.1, y.2.1, by have := y.2.2; omega⟩
  · unfold rl_Hp
    simp only [fM 0 74 (by omega) (by omega) (by omega) (by omega), fun b => fM 13 b (by omega) (by omega) (by omega) (by omega), fun b => fM 20 b (by omega) (by omega) (by omega) (by omega), fun b => fM 22 b (by omega) (by omega) (by omega) (by omega), fun b => fM 54 b (by omega) (by omega) (by omega) (by omega), fun b => fM 64 b (by omega) (by omega) (by omega) (by omega), fun b => fM 66 b (by omega) (by omega) (by omega) (by omega), d65]
    have keep : ∀ p, p < 4 → ¬ (p < n ∧ mFr M (t + 1) p) → hgM M n (t + 1) 65 p = M 65 p ∧ pass C n (t + 1) (270 + p) 1 = C (270 + p) 1 := by
      intro p hp hf
      by_cases q : p < n
      · have nf : ¬ mFr M (t + 1) p := fun w => hf ⟨q, w⟩
        exact ⟨hgM_n nf, pass_n (fun w => nf ((frE p hp).mp w))⟩
      · exact ⟨hgM_f (by omega) (by omega) (fun _ => by omega) (by omega), pass_f (by omega) (fun w => by omega) (by omega)⟩
    refine ⟨fun p hp => ?_, fun p q hpq hq => ?_, fun u hu hu1 => ?_⟩
    · have g := hpp.1 p hp
      rw [fC (270 + p) 0 (by omega) (by omega) (by omega), fC (270 + p) 2 (by omega) (by omega) (by omega)]
      by_cases q : p < n ∧ mFr M (t + 1) p
      · rw [hgM_y q.1 q.2, pass_y q.1 ((frE p hp).mpr q.2)]
        exact ⟨g.1, rfl, fun w => ⟨(g.2.2.1 w).1, rfl⟩, g.2.2.2.1, Or.inl rfl⟩
      · obtain ⟨k1, k2⟩ := keep p hp q
        rw [k1, k2]
        refine ⟨g.1, g.2.1, g.2.2.1, g.2.2.2.1, ?_⟩
        rcases g.2.2.2.2 with w | w
        · exact Or.inl w
        · refine Or.inr ?_
          have hq : Int32.toNatClampNeg (M 65 p) < 60 := by have := w.2.1; omega
          rw [fC (150 + 2 * Int32.toNatClampNeg (M 65 p)) 6 (by omega) (by omega) (by omega)]
          have nw : M 65 p ≠ -1 := by rw [w.1.eq (by omega)]; exact nI_ne (by omega)
          have np : ¬ ∃ r, r < n ∧ mFr M (t + 1) r ∧ Int32.toNatClampNeg (M 65 r) = Int32.toNatClampNeg (M 65 p) := by
            rintro ⟨r, hr, hf, e⟩
            have := dis r p (by omega) hp hf.1 nw e
            subst this
            exact q ⟨hr, hf⟩
          rw [(inn _ np).2.1]
          refine ⟨w.1, w.2.1, w.2.2.1, w.2.2.2.1, w.2.2.2.2.1, w.2.2.2.2.2.1, ?_, w.2.2.2.2.2.2.2⟩
          have lt := w.2.2.2.2.2.2.1
          rw [c65] at lt
          obtain ⟨f, hf, ef⟩ := w.2.2.2.2.2.1
          rw [ef] at lt ⊢
          ((try simp (disch := omega) only [nI_clamp] at lt ⊢))
          have hpn : p < n := by
            rcases Nat.lt_or_ge p n with z | z
            · exact z
            · exact absurd (g.2.2.1 (by omega)).2 nw
          have : f ≠ t + 1 := fun z => q ⟨hpn, nw, by rw [ef, z]⟩
          omega
    · have g := hpp.2.1 p q hpq hq
      refine ⟨g.1, ?_⟩
      by_cases q1 : p < n ∧ mFr M (t + 1) p
      · exact Or.inl (hgM_y q1.1 q1.2)
      · rw [(keep p (by omega) q1).1]
        rcases g.2 with w | w
        · exact Or.inl w
        · by_cases q2 : q < n ∧ mFr M (t + 1) q
          · rw [hgM_y q2.1 q2.2]
            by_cases z : M 65 p = -1
            · exact Or.inl z
            · exact Or.inr z
          · rw [(keep q hq q2).1]; exact Or.inr w
    · by_cases q : ∃ p, p < n ∧ mFr M (t + 1) p ∧ Int32.toNatClampNeg (M 65 p) = u
      · rw [(out u q).2.1] at hu1; exact absurd hu1 (by decide)
      · rw [(inn u q).2.1] at hu1
        obtain ⟨p, hp, e⟩ := hpp.2.2 u hu hu1
        refine ⟨p, hp, ?_⟩
        rw [(keep p hp (fun w => q ⟨p, w.1, w.2, by rw [e, nI_clamp (by omega)]⟩)).1]
        exact e
theorem pass_id {n t : Nat} (hf : ∀ p, p < n → ¬ cFr C t p) (hh : C 41 1 = nI t) : pass C n t = C := by
  funext a b
  unfold pass
  by_cases e : a = 41 ∧ b = 1
  · obtain ⟨rfl, rfl⟩ := e
    rw [u2_s, hh]
  · rw [fr1 (by omega)]
    unfold psC
    rw [cite_n (fun w => hf (a - 270) (by omega) w.2.2.2), cite_n (fun ⟨_, p, hp, w, _⟩ => hf p hp w)]
theorem fcn_0 {t : Nat} : ∀ n, (∀ p, p < n → ¬ cFr C t p) → fcn C t n = 0 := by
  intro n
  induction n with
  | zero => intro _; rfl
  | succ n ih => intro h; rw [fcn_s, ih (fun p hp => h p (by omega)), cite_n (h n (by omega))]
theorem Rl.nof (h : Rl x C M J) {t : Nat} (ht : M 0 65 = nI t) {p : Nat} (hp : p < 4) : ¬ cFr C t p := by
  have hb := h.hourB
  obtain ⟨k, hk, ek⟩ := hb
  have g := h.H.2.2.2.2.1.1 p hp
  rintro ⟨w1, w2⟩
  rw [g.2.1] at w1
  have w := g.2.2.2.2.resolve_left w1
  obtain ⟨f, hf, ef⟩ := w.2.2.2.2.2.1
  have lt := w.2.2.2.2.2.2.1
  rw [ek, ef] at lt
  simp (disch := omega) only [nI_clamp] at lt
  rw [w.2.2.2.2.1, ef, ← ht, ek] at w2
  exact w2 (nI_lt lt (by omega))
theorem Rl.tyB (h : Rl x C M J) {n : Nat} (h4 : n ≤ 4) : (∀ p, p < n → C (270 + p) 1 ≠ -1 → bd (C (270 + p) 1) 59) ∧ ∀ p, p < n → M 65 p ≠ -1 → bd (M 65 p) 59 := by
  have key : ∀ p, p < n → M 65 p ≠ -1 → bd (M 65 p) 59 := fun p hp w => ((h.H.2.2.2.2.1.1 p (by omega)).2.2.2.2.resolve_left w).1
  refine ⟨fun p hp w => ?_, key⟩
  have e := (h.H.2.2.2.2.1.1 p (by omega)).2.1
  rw [e] at w ⊢
  exact key p hp w
/-- k hours one by one -/
noncomputable def hgN (M : tI) (n t : Nat) : Nat → tI
  | 0 => M
  | k + 1 => hgM (hgN M n t k) n (t + k + 1)
theorem hgN_s (M : tI) (n t k : Nat) : hgN M n t (k + 1) = hgM (hgN M n t k) n (t + k + 1) := rfl
theorem hgN_f {M : tI} {n t a b : Nat} (q1 : a ≠ 55) (q2 : a ≠ 62) (q3 : a ≠ 65) (q4 : a = 0 → b ≠ 65) : ∀ k, hgN M n t k a b = M a b := by
  intro k
  induction k with
  | zero => rfl
  | succ k ih => rw [hgN_s, hgM_f q1 q2 (fun w => absurd w q3) q4, ih]
theorem Rl.hrs (h : Rl x C M J) {t n : Nat} (ht : M 0 65 = nI t) (hn : M 20 (xb x) = nI n) (h4 : n ≤ 4) : ∀ k, t + k ≤ 9999 → Rl x (pass C n (t + k)) (hgN M n t k) J ∧ hgN M n t k 0 65 = nI (t + k) := by
  intro k
  induction k with
  | zero =>
    intro _
    refine ⟨?_, by rw [Nat.add_zero]; exact ht⟩
    rw [Nat.add_zero, pass_id (fun p hp => h.nof ht (by omega)) (by rw [h.hour, ht])]
    exact h
  | succ k ih =>
    intro hk
    obtain ⟨r, e1⟩ := ih (by omega)
    have r2 := r.hr e1 (by omega) (by rw [hgN_f (by omega) (by omega) (by omega) (by omega)]; exact hn) h4
    rw [pass_pass h4 (by omega) (by omega)] at r2
    exact ⟨r2, hgM_h⟩
theorem Rl.hrC (h : Rl x C M J) {t n : Nat} (ht : M 0 65 = nI t) (hn : M 20 (xb x) = nI n) (h4 : n ≤ 4) (d k : Nat) (hk : t + k + 1 ≤ 9999) : ∃ c, c ≤ 4 ∧ am_G (am_ev (d + 1)) 237 [.ref 0] (hgN M n t k, J, tm_R, tm_S, 77, 21637) = some (some (.int (nI c)), (hgN M n t (k + 1), J, tm_R, tm_S, 77, 21637)) ∧ fcn C (t + k + 1) n = fcn C (t + k) n + c := by
  obtain ⟨r, e1⟩ := h.hrs ht hn h4 k (by omega)
  have e20 : hgN M n t k 20 (xb x) = nI n := by rw [hgN_f (by omega) (by omega) (by omega) (by omega)]; exact hn
  refine ⟨mcn (hgN M n t k) (t + k + 1) n, ?_, m_hour d _ J r.B (xb1 x) e20 h4 e1 (r.tyB h4).2, ?_⟩
  · rw [← r.fcE e1 (by omega) n h4]
    exact Nat.le_trans (fcn_le _ _ _) h4
  · rw [← r.fcE e1 (by omega) n h4]
    exact fcn_pass h4 (by omega) (by omega) n (Nat.le_refl _)
theorem k_hours (h : Rl x C M J) (a : Int32) : Lk 130 247 [.int a] x C M Jc J := by
  have bad := fun e1 e2 => (⟨-1, x, _, _, J, e1, e2, h.ref 4 (by omega)⟩ : Lk 130 247 [.int a] x C M Jc J)
  obtain ⟨t, ht, et⟩ := h.hourB
  obtain ⟨n, h4, hn⟩ := h.n20.2
  by_cases hw : 1 ≤ a ∧ a ≤ 999
  rotate_left
  · refine bad ?_ (by rw [b247_0, m_is0 _ _ _ hw, am_call_s, am_toL, b247_8, if_pos rfl, mrk _ _ _ 4 4 rfl (by omega), am_call_s, am_toL, b247_28])
    rw [b130_0]
    by_cases w1 : a < 1
    · rw [if_pos w1, crk _ _ _ _ 4 4 rfl (by omega), am_call_s, am_toL, b130_32]
    · rw [if_neg w1, if_pos (Int32.not_le.mp (fun q => hw ⟨Int32.not_lt.mp w1, q⟩)), crk _ _ _ _ 4 4 rfl (by omega), am_call_s, am_toL, b130_32]
  have w1 : ¬ a < 1 := Int32.not_lt.mpr hw.1
  have w2 : ¬ 999 < a := Int32.not_lt.mpr hw.2
  obtain ⟨m, hm, em⟩ : ∃ p, p ≤ 999 ∧ a = nI p := by
    obtain ⟨p, hp, ep⟩ := nI_of (x := a) (by rw [i_lt] at w1 ⊢; have : (0 : Int32).toInt = 0 := rfl; have : (1 : Int32).toInt = 1 := rfl; omega)
    refine ⟨p, ?_, ep⟩
    have q := hw.2
    rw [ep, (show (999 : Int32) = nI 999 from rfl), nI_leI hp (by omega)] at q; exact q
  subst em
  have f1 := Eq.refl (am_G (am_ev 100) 130 [.ref 0, .int (nI m)] (C, Jc, (tc_R x), tc_S, 289, 11479))
  conv at f1 => rhs; rw [b130_0, if_neg w1, if_neg w2, h.hour, et, nI_add, (show (9999 : Int32) = nI 9999 from rfl)]
  have f2 := Eq.refl (am_G (am_ev 100) 247 [.ref 0, .int (nI m)] (M, J, tm_R, tm_S, 77, 21637))
  conv at f2 => rhs; rw [b247_0, m_is1 _ _ _ hw, am_call_s, am_toL, b247_8, if_neg (by decide : ¬ (1 : Int32) = 0), et, nI_add, (show (9999 : Int32) = nI 9999 from rfl)]
  by_cases q : t + m ≤ 9999
  · have run : ∀ k, k ≤ m → am_ev 100 247 33 [.ref 0, .int (nI m), .int (nI 0), .int (nI 0)] [] (M, J, tm_R, tm_S, 77, 21637) = am_ev 100 247 33 [.ref 0, .int (nI m), .int (nI (fcn C (t + k) n)), .int (nI k)] [] (hgN M n t k, J, tm_R, tm_S, 77, 21637) := by
      intro k
      induction k with
      | zero =>
        intro _
        rw [Nat.add_zero, fcn_0 n (fun p hp => h.nof et (by omega))]; rfl
      | succ k ih =>
        intro hk
        obtain ⟨c, hc4, e1, e2⟩ := h.hrC et hn h4 98 k (by omega)
        rw [ih (by omega), b247_33, if_neg (nI_ge (by omega) (by omega)), e1, am_call_s, am_toL, b247_43, nI_add, nI_1, ← e2]
        rfl
    refine ⟨nI (fcn C (t + m) n), x, pass C n (t + m), hgN M n t m, J, ?_, ?_, (h.hrs et hn h4 m q).1⟩
    · rw [f1, if_pos (nI_le q (by omega)), c_pass 98 C Jc x (h.n20.1.trans hn) h4 (h.tyB h4).1, am_call_s, am_toL, b130_49]
    · rw [f2, if_pos (nI_le q (by omega)), (show (0 : Int32) = nI 0 from rfl), run m (Nat.le_refl _), b247_33, if_pos (Int32.le_refl _)]
  · exact bad (by rw [f1, if_neg (nI_ge (by omega) (by omega)), crk _ _ _ _ 4 4 rfl (by omega), am_call_s, am_toL, b130_32]) (by rw [f2, if_neg (nI_ge (by omega) (by omega)), mrk _ _ _ 4 4 rfl (by omega), am_call_s, am_toL, b247_28])
end HRS
