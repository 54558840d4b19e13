/-! a cure begins on both sides; cure -/
section CU2
variable {x : Bool} {C M : tI} {J Jc : tJ}
theorem fr7 {C : tI} {k0 j0 k1 j1 k2 j2 k3 j3 k4 j4 k5 j5 k6 j6 a b : Nat} {v0 v1 v2 v3 v4 v5 v6 : Int32} (h0 : a ≠ k0 ∨ b ≠ j0) (h1 : a ≠ k1 ∨ b ≠ j1) (h2 : a ≠ k2 ∨ b ≠ j2) (h3 : a ≠ k3 ∨ b ≠ j3) (h4 : a ≠ k4 ∨ b ≠ j4) (h5 : a ≠ k5 ∨ b ≠ j5) (h6 : a ≠ k6 ∨ b ≠ j6) : am_u2 (am_u2 (am_u2 (am_u2 (am_u2 (am_u2 (am_u2 C k0 j0 v0) k1 j1 v1) k2 j2 v2) k3 j3 v3) k4 j4 v4) k5 j5 v5) k6 j6 v6 a b = C a b := by
  unfold am_u2
  rw [if_neg (by omega), if_neg (by omega), if_neg (by omega), if_neg (by omega), if_neg (by omega), if_neg (by omega), if_neg (by omega)]
theorem Rl.cure (h : Rl x C M J) {p t m : Nat} (hp : p < 4) (e : nxM M x p = some t) (em : M 64 p = nI m) (hm : m ≤ 7) : Rl x (curC C x p t m) (curM M x p t m) J := by
  have hx := tc_P4 x
  have n74 := h.n74
  have n66 := h.nbB.cl (by omega)
  have n70 := h.nlB.cl (by omega)
  have b11 := h.n11.2.cl (by omega)
  obtain ⟨q65, m', hm', lt, em', q2, htn, s0, sz⟩ := h.nxS hp e
  obtain rfl : m = m' := nI_inj (by omega) (by omega) (em.symm.trans em')
  obtain ⟨h0, hb, hll, htt, hpp, hmm⟩ := h.H
  obtain ⟨hh, hh9, ehh⟩ := h.hourB
  have ch : Int32.toNatClampNeg (M 0 65) = hh := by rw [ehh]; exact nI_clamp (by omega)
  have gt := htt t htn
  have gp := hpp.1 p hp
  have npp : p < Int32.toNatClampNeg (M 20 (xb x)) := by
    rcases Nat.lt_or_ge p (Int32.toNatClampNeg (M 20 (xb x))) with z | z
    · exact z
    · have := (gp.2.2.1 z).1; rw [em] at this; exact absurd this (nI_ne (by omega))
  obtain ⟨z, hz, ez⟩ := gt.2.2.2.2.2.2.2.1
  have cz : Int32.toNatClampNeg (M 54 t) = z := by rw [ez]; exact nI_clamp (by omega)
  have zl := gt.2.2.2.2.2.2.2.2.1
  rw [cz] at zl
  obtain ⟨gs1, gs2, gs3⟩ := h.P.2.2.2.2.1 z zl
  obtain ⟨w, hw, ew⟩ := gs2
  (rw [ew] at gs3; (try simp (disch := omega) only [nI_clamp] at gs3))
  have fC : ∀ a b, (a = 150 + 2 * t → b < 4 ∨ 6 < b) → (a = 82 → b ≠ t) → (a = 85 → b ≠ m) → (a = 270 + p → b ≠ 1 ∧ b ≠ 2) → curC C x p t m a b = C a b := fun a b q1 q2 q3 q4 => fr7 (by omega) (by omega) (by omega) (by omega) (by omega) (by omega) (by omega)
  have fM : ∀ a b, (a = 55 ∨ a = 59 ∨ a = 60 ∨ a = 61 → b ≠ t) → (a = 65 ∨ a = 66 → b ≠ p) → (a = 67 → b ≠ m) → curM M x p t m a b = M a b := fun a b q1 q2 q3 => fr7 (by omega) (by omega) (by omega) (by omega) (by omega) (by omega) (by omega)
  have gC : ∀ a b, a ≠ 150 + 2 * t → a ≠ 82 → a ≠ 85 → a ≠ 270 + p → curC C x p t m a b = C a b := fun a b q1 q2 q3 q4 => fC a b (by omega) (by omega) (by omega) (by omega)
  have gM : ∀ a b, a ≠ 55 → a ≠ 59 → a ≠ 60 → a ≠ 61 → a ≠ 65 → a ≠ 66 → a ≠ 67 → curM M x p t m a b = M a b := fun a b q1 q2 q3 q4 q5 q6 q7 => fM a b (by omega) (by omega) (by omega)
  have c4 : curC C x p t m (150 + 2 * t) 4 = C 85 m := by unfold curC; simp (disch := omega) only [u2_c, u2_p, u2_s]
  have c5 : curC C x p t m (150 + 2 * t) 5 = nI p := by unfold curC; simp (disch := omega) only [u2_c, u2_p, u2_s]
  have c6 : curC C x p t m (150 + 2 * t) 6 = C 41 1 := by unfold curC; simp (disch := omega) only [u2_c, u2_p, u2_s]
  have c8 : curC C x p t m 82 t = 1 := by unfold curC; simp (disch := omega) only [u2_c, u2_p, u2_s]
  have c85 : curC C x p t m 85 m = C 85 m + 1 := by unfold curC; simp (disch := omega) only [u2_c, u2_p, u2_s]
  have c1 : curC C x p t m (270 + p) 1 = nI t := by unfold curC; simp (disch := omega) only [u2_c, u2_p, u2_s]
  have c2 : curC C x p t m (270 + p) 2 = C 41 1 + C (tc_P x + 13) (Int32.toNatClampNeg (C (150 + 2 * t) 0)) := by unfold curC; rw [u2_s]
  have m55 : curM M x p t m 55 t = 1 := by unfold curM; simp (disch := omega) only [u2_c, u2_p, u2_s]
  have m59 : curM M x p t m 59 t = M 67 m := by unfold curM; simp (disch := omega) only [u2_c, u2_p, u2_s]
  have m60 : curM M x p t m 60 t = nI p := by unfold curM; simp (disch := omega) only [u2_c, u2_p, u2_s]
  have m61 : curM M x p t m 61 t = M 0 65 - M 56 t := by unfold curM; simp (disch := omega) only [u2_c, u2_p, u2_s]
  have m65 : curM M x p t m 65 p = nI t := by unfold curM; simp (disch := omega) only [u2_c, u2_p, u2_s]
  have m66 : curM M x p t m 66 p = M 0 65 + M 13 (6 * xb x + Int32.toNatClampNeg (M 54 t)) := by unfold curM; rw [u2_s]
  have m67 : curM M x p t m 67 m = M 67 m + 1 := by unfold curM; simp (disch := omega) only [u2_c, u2_p, u2_s]
  have gmm := hmm.1 m (by omega)
  have go := h.P.2.2.2.2.2.2.2.1.1 m lt
  have old : C (150 + 2 * t) 6 = -1 ∧ M 61 t = -1 ∧ M 62 t = -1 := by
    rcases gt.2.2.2.2.2.2.2.2.2.2.2.2.2.2.2 with r | r
    · exact ⟨r.1, r.2.1, r.2.2.1⟩
    · exact absurd s0 r.2.2.2.2.1
  have oth : ∀ q, q < 4 → q ≠ p → M 65 q ≠ -1 → Int32.toNatClampNeg (M 65 q) ≠ t := by
    intro q hq _ w1 w2
    have r := ((hpp.1 q hq).2.2.2.2.resolve_left w1).2.2.1
    rw [w2, s0] at r; exact absurd r (by decide)
  refine h.flr ⟨h0.fr (fun b => gC 41 b (by omega) (by omega) (by omega) (by omega)) (fun a b _ => gM a b (by omega) (by omega) (by omega) (by omega) (by omega) (by omega) (by omega)), hb.fr n66 (fun a b _ => gC a b (by omega) (by omega) (by omega) (by omega)) (fun a b _ => gM a b (by omega) (by omega) (by omega) (by omega) (by omega) (by omega) (by omega)), hll.fr n70 (fun a b _ => gC a b (by omega) (by omega) (by omega) (by omega)) (fun a b _ => gM a b (by omega) (by omega) (by omega) (by omega) (by omega) (by omega) (by omega)), ?_, ?_, ?_⟩ ?_ (fun a b _ => gC a b (by omega) (by omega) (by omega) (by omega)) (fun a b _ => gM a b (by omega) (by omega) (by omega) (by omega) (by omega) (by omega) (by omega))
  · intro u hu
    rw [gM 0 74 (by omega) (by omega) (by omega) (by omega) (by omega) (by omega) (by omega)] at hu
    have g := htt u hu
    rw [gM 0 65 (by omega) (by omega) (by omega) (by omega) (by omega) (by omega) (by omega), gM 54 u (by omega) (by omega) (by omega) (by omega) (by omega) (by omega) (by omega), gM 56 u (by omega) (by omega) (by omega) (by omega) (by omega) (by omega) (by omega), gM 57 u (by omega) (by omega) (by omega) (by omega) (by omega) (by omega) (by omega), gM 58 u (by omega) (by omega) (by omega) (by omega) (by omega) (by omega) (by omega), gM 62 u (by omega) (by omega) (by omega) (by omega) (by omega) (by omega) (by omega), gM 11 _ (by omega) (by omega) (by omega) (by omega) (by omega) (by omega) (by omega), gM 13 _ (by omega) (by omega) (by omega) (by omega) (by omega) (by omega) (by omega), fC (150 + 2 * u) 0 (by omega) (by omega) (by omega) (by omega), fC (150 + 2 * u) 1 (by omega) (by omega) (by omega) (by omega), fC (150 + 2 * u) 2 (by omega) (by omega) (by omega) (by omega), fC (150 + 2 * u) 3 (by omega) (by omega) (by omega) (by omega)]
    by_cases eu : u = t
    · subst eu
      rw [c4, c5, c6, c8, m55, m59, m60, m61, gmm.1, h.hour]
      refine ⟨g.1, rfl, g.2.2.1, g.2.2.2.1, g.2.2.2.2.1, rfl, rfl, g.2.2.2.2.2.2.2.1, g.2.2.2.2.2.2.2.2.1, ⟨1, by omega, rfl⟩, g.2.2.2.2.2.2.2.2.2.2.1, g.2.2.2.2.2.2.2.2.2.2.2.1, g.2.2.2.2.2.2.2.2.2.2.2.2.1, Or.inr gmm.2, Or.inr (bd_nI (by omega)), Or.inr ⟨h.hourB, g.2.2.2.2.2.2.2.2.2.2.2.1, Nat.le_refl _, rfl, by decide, gmm.2, bd_nI (by omega), fun r => ?_, fun _ => old.2.2⟩⟩
      rcases r with r | r <;> exact absurd r (by decide)
    · rw [fC (150 + 2 * u) 4 (by omega) (by omega) (by omega) (by omega), fC (150 + 2 * u) 5 (by omega) (by omega) (by omega) (by omega), fC (150 + 2 * u) 6 (by omega) (by omega) (by omega) (by omega), fC 82 u (by omega) (by omega) (by omega) (by omega), fM 55 u (by omega) (by omega) (by omega), fM 59 u (by omega) (by omega) (by omega), fM 60 u (by omega) (by omega) (by omega), fM 61 u (by omega) (by omega) (by omega)]
      exact g
  · unfold rl_Hp
    rw [gM 0 74 (by omega) (by omega) (by omega) (by omega) (by omega) (by omega) (by omega), gM 0 65 (by omega) (by omega) (by omega) (by omega) (by omega) (by omega) (by omega)]
    simp only [fun b => gM 13 b (by omega) (by omega) (by omega) (by omega) (by omega) (by omega) (by omega), fun b => gM 20 b (by omega) (by omega) (by omega) (by omega) (by omega) (by omega) (by omega), fun b => gM 22 b (by omega) (by omega) (by omega) (by omega) (by omega) (by omega) (by omega), fun b => gM 54 b (by omega) (by omega) (by omega) (by omega) (by omega) (by omega) (by omega), fun b => gM 64 b (by omega) (by omega) (by omega) (by omega) (by omega) (by omega) (by omega)]
    refine ⟨fun q hq => ?_, fun q r hqr hr => ?_, fun u hu hu1 => ?_⟩
    · have g := hpp.1 q hq
      rw [fC (270 + q) 0 (by omega) (by omega) (by omega) (by omega)]
      by_cases eq : q = p
      · subst eq
        (rw [c1, c2, m65, m66]; (try simp (disch := omega) only [nI_clamp]); rw [c6, h.hour, gt.1, cz, gs1, ew, ehh, nI_add])
        refine ⟨g.1, by first | rfl | trivial, fun k => by omega, g.2.2.2.1, Or.inr ⟨bd_nI (by omega), htn, m55, by rw [em]; exact nI_ne (by omega), by first | rfl | trivial, bd_nI (by omega), ?_, ?_⟩⟩
        · ((try simp (disch := omega) only [nI_clamp])); omega
        · rfl
      · rw [fC (270 + q) 1 (by omega) (by omega) (by omega) (by omega), fC (270 + q) 2 (by omega) (by omega) (by omega) (by omega), fM 65 q (by omega) (by omega) (by omega), fM 66 q (by omega) (by omega) (by omega)]
        refine ⟨g.1, g.2.1, g.2.2.1, g.2.2.2.1, ?_⟩
        rcases g.2.2.2.2 with y | y
        · exact Or.inl y
        · refine Or.inr ?_
          have ny : M 65 q ≠ -1 := by rw [y.1.eq (by omega)]; exact nI_ne (by omega)
          have nt := oth q hq eq ny
          have hq6 : Int32.toNatClampNeg (M 65 q) < 60 := by have := y.2.1; omega
          rw [fM 55 _ (by omega) (by omega) (by omega), fC (150 + 2 * Int32.toNatClampNeg (M 65 q)) 6 (by omega) (by omega) (by omega) (by omega)]
          exact y
    · have g := hpp.2.1 q r hqr hr
      refine ⟨g.1, ?_⟩
      by_cases eq : q = p
      · subst eq
        rw [m65, fM 65 r (by omega) (by omega) (by omega)]
        refine Or.inr (fun w => ?_)
        have nr : M 65 r ≠ -1 := by rw [← w]; exact nI_ne (by omega)
        have := oth r hr (by omega) nr
        (rw [← w] at this; (try simp (disch := omega) only [nI_clamp] at this))
        exact this rfl
      · rw [fM 65 q (by omega) (by omega) (by omega)]
        by_cases er : r = p
        · subst er
          rw [m65]
          by_cases nq : M 65 q = -1
          · exact Or.inl nq
          · refine Or.inr (fun w => ?_)
            have := oth q (by omega) eq nq
            (rw [w] at this; (try simp (disch := omega) only [nI_clamp] at this))
            exact this rfl
        · rw [fM 65 r (by omega) (by omega) (by omega)]; exact g.2
    · by_cases eu : u = t
      · subst eu; exact ⟨p, hp, m65⟩
      · rw [fM 55 u (by omega) (by omega) (by omega)] at hu1
        obtain ⟨q, hq, e1⟩ := hpp.2.2 u hu hu1
        have nq : q ≠ p := by
          intro w; subst w; rw [q65] at e1; exact nI_ne (k := u) (by omega) e1.symm
        exact ⟨q, hq, by rw [fM 65 q (by omega) (by omega) (by omega)]; exact e1⟩
  · unfold rl_Hm
    simp only [fun b => gM 20 b (by omega) (by omega) (by omega) (by omega) (by omega) (by omega) (by omega), fun b => gM 22 b (by omega) (by omega) (by omega) (by omega) (by omega) (by omega) (by omega), fun b => gM 64 b (by omega) (by omega) (by omega) (by omega) (by omega) (by omega) (by omega), fun b => gC 84 b (by omega) (by omega) (by omega) (by omega)]
    refine ⟨fun k hk => ?_, hmm.2⟩
    by_cases ek : k = m
    · subst ek
      rw [c85, m67, gmm.1]
      refine ⟨rfl, ?_⟩
      obtain ⟨v, hv, ev⟩ := gmm.2
      obtain ⟨l, hl, el⟩ := go.2.2.2.2.1
      rw [ev, el, nI_ltI (by omega) (by omega)] at q2
      rw [ev, nI_1]
      exact bd_nI (by omega)
    · rw [fC 85 k (by omega) (by omega) (by omega) (by omega), fM 67 k (by omega) (by omega) (by omega)]
      exact hmm.1 k hk
  · exact h.V.fr n74 (fun a b q => fC a b (fun w => by omega) (by omega) (by omega) (by omega)) (fun a b _ => gM a b (by omega) (by omega) (by omega) (by omega) (by omega) (by omega) (by omega))
/-- a press cures if it can, on both sides -/
noncomputable def cuC (C M : tI) (x : Bool) (p : Nat) : tI := match nxM M x p with
  | some t => curC C x p t (Int32.toNatClampNeg (M 64 p))
  | none => C
noncomputable def cuM (M : tI) (x : Bool) (p : Nat) : tI := match nxM M x p with
  | some t => curM M x p t (Int32.toNatClampNeg (M 64 p))
  | none => M
theorem Rl.cu (h : Rl x C M J) {p : Nat} (hp : p < 4) : Rl x (cuC C M x p) (cuM M x p) J := by
  unfold cuC cuM
  cases e : nxM M x p with
  | none => exact h
  | some t =>
    obtain ⟨_, m, hm, lt, em, _⟩ := h.nxS hp e
    dsimp only
    (rw [em]; (try simp (disch := omega) only [nI_clamp]))
    exact h.cure hp e em hm
end CU2
section CU3
variable {x : Bool} {C M : tI} {J Jc : tJ}
theorem Rl.nxL (h : Rl x C M J) {p t : Nat} (hp : p < 4) (e : nxM M x p = some t) : t < 60 := by
  have nt := h.ntB.cl (by omega)
  have := (h.nxS hp e).2
  obtain ⟨m, _, _, _, _, htn, _⟩ := this
  omega
theorem k_cure (h : Rl x C M J) (a : Int32) : Lk 127 244 [.int a] x C M Jc J := by
  have bad := fun e1 e2 => (⟨-1, x, _, _, J, e1, e2, h.ref 3 (by omega)⟩ : Lk 127 244 [.int a] x C M Jc J)
  rcases h.kind (Jc := Jc) (q := 3) (by omega) a 98 97 with ⟨e1, e2⟩ | ⟨p, hp, rfl, hp4, e1, e2⟩
  · exact bad (by rw [b127_0, (show (3 : Int32) = nI 3 from rfl), e1, am_call_s, am_toL, b127_12, if_pos rfl, crk _ _ _ _ 3 3 rfl (by omega), am_call_s, am_toL, b127_38]) (by rw [b244_0, (show (3 : Int32) = nI 3 from rfl), e2, am_call_s, am_toL, b244_6, if_pos rfl, mrk _ _ _ 3 3 rfl (by omega), am_call_s, am_toL, b244_29])
  · have hp4 : p < 4 := hp4
    have c1 := h.scC (Jc := Jc) hp4 97
    have c2 := h.cgM hp4 96
    have r := h.cu hp4
    unfold cuC cuM at r
    cases e : nxM M x p with
    | none =>
      rw [e] at c1 c2
      refine bad ?_ ?_
      · rw [b127_0, (show (3 : Int32) = nI 3 from rfl), e1, am_call_s, am_toL, b127_12, if_neg (by decide : ¬ (1 : Int32) = 0), c1, am_call_s, am_toL]
        refine (b127_23 99 C Jc x (some (.inr (nI p))) am_un (-1)).trans ?_
        rw [if_pos rfl, crk _ _ _ _ 3 3 rfl (by omega), am_call_s, am_toL, b127_38]
      · rw [b244_0, (show (3 : Int32) = nI 3 from rfl), e2, am_call_s, am_toL, b244_6, if_neg (by decide : ¬ (1 : Int32) = 0), c2, am_call_s, am_toL]
        refine (b244_14 99 M J (some (.inr (nI p))) am_un (-1)).trans ?_
        rw [if_pos rfl, mrk _ _ _ 3 3 rfl (by omega), am_call_s, am_toL, b244_29]
    | some t =>
      have t60 := h.nxL hp4 e
      rw [e] at c1 c2 r
      refine ⟨nI t, x, _, _, J, ?_, ?_, r⟩
      · rw [b127_0, (show (3 : Int32) = nI 3 from rfl), e1, am_call_s, am_toL, b127_12, if_neg (by decide : ¬ (1 : Int32) = 0), c1, am_call_s, am_toL]
        refine (b127_23 99 _ Jc x (some (.inr (nI p))) am_un (nI t)).trans ?_
        rw [if_neg (nI_ne (by omega))]
      · rw [b244_0, (show (3 : Int32) = nI 3 from rfl), e2, am_call_s, am_toL, b244_6, if_neg (by decide : ¬ (1 : Int32) = 0), c2, am_call_s, am_toL]
        refine (b244_14 99 _ J (some (.inr (nI p))) am_un (nI t)).trans ?_
        rw [if_neg (nI_ne (by omega))]
end CU3
