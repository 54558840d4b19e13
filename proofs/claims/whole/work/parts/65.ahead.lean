/-! the hours ahead: what both sides keep -/
theorem fnd_no {c : Nat → Bool} : ∀ k l, (∀ i, l ≤ i → i < l + k → c i = false) → fnd c k l = none := by
  intro k
  induction k with
  | zero => intro l _; rfl
  | succ k ih =>
    intro l h
    unfold fnd
    rw [if_neg (by rw [h l (Nat.le_refl _) (by omega)]; decide)]
    exact ih (l + 1) (fun i h1 h2 => h i (by omega) (by omega))
def nsm (f : Nat → Nat) : Nat → Nat
  | 0 => 0
  | n + 1 => nsm f n + f n
theorem nsm_s (f : Nat → Nat) (n : Nat) : nsm f (n + 1) = nsm f n + f n := rfl
theorem nsm_le {f g : Nat → Nat} : ∀ n, (∀ t, t < n → f t ≤ g t) → nsm f n ≤ nsm g n := by
  intro n
  induction n with
  | zero => intro _; exact Nat.le_refl _
  | succ n ih =>
    intro h
    have h1 := ih (fun t ht => h t (by omega))
    have h2 := h n (by omega)
    rw [nsm_s, nsm_s]; omega
theorem nsm_lt {f g : Nat → Nat} {i : Nat} (hi : f i < g i) : ∀ n, i < n → (∀ t, t < n → f t ≤ g t) → nsm f n < nsm g n := by
  intro n
  induction n with
  | zero => intro h _; omega
  | succ n ih =>
    intro h1 h
    rw [nsm_s, nsm_s]
    by_cases e : i = n
    · subst e
      have := nsm_le (f := f) (g := g) i (fun t ht => h t (by omega))
      omega
    · have h2 := ih (by omega) (fun t ht => h t (by omega))
      have h3 := h n (by omega)
      omega
theorem nsm_b {f : Nat → Nat} {c : Nat} : ∀ n, (∀ t, t < n → f t ≤ c) → nsm f n ≤ c * n := by
  intro n
  induction n with
  | zero => intro _; exact Nat.le_refl _
  | succ n ih =>
    intro h
    have h1 := ih (fun t ht => h t (by omega))
    have h2 := h n (by omega)
    rw [nsm_s, Nat.mul_add]; omega
section AH
variable {x : Bool} {C C0 M M0 V : tI} {J Jc : tJ} {nt h : Nat}
def rdy (C : tI) (x : Bool) (t : Nat) : Nat := Int32.toNatClampNeg (C (150 + 2 * t) 1) + Int32.toNatClampNeg (C (tc_P x) 18)
def wt (C : tI) (x : Bool) (h t : Nat) : Nat := (if C 278 t = 0 then 1 else 0) + (if C 278 t = 0 ∧ h < rdy C x t then 1 else 0) + (if h < Int32.toNatClampNeg (C 279 t) then 1 else 0)
def FS (nt : Nat) (C M : tI) (h : Nat) : Prop := (∀ p, p < 4 → C 275 p = M 74 p) ∧ (∀ p, p < 4 → bd (C 276 p) 10098 ∧ (M 65 p = -1 → Int32.toNatClampNeg (C 276 p) ≤ h) ∧ (M 65 p ≠ -1 → C 276 p = M 66 p ∧ C 279 (Int32.toNatClampNeg (M 65 p)) = M 66 p)) ∧ (∀ m, m < 8 → C 277 m = M 67 m) ∧ ∀ t, t < nt → (C 278 t = 0 ↔ M 55 t = 0) ∧ (M 55 t = 0 ∨ M 55 t = 3 → C 279 t = -1) ∧ (M 55 t = 2 → C 279 t = M 62 t)
def StC (C0 C : tI) : Prop := ∀ a b, a < 275 ∨ 279 < a → C a b = C0 a b
def StM (nt : Nat) (M0 M : tI) : Prop := ∀ a b, ¬ (a = 0 ∧ b = 65) → (a = 55 ∨ a = 59 ∨ a = 60 ∨ a = 61 ∨ a = 62 → nt ≤ b) → (a = 65 ∨ a = 66 ∨ a = 74 → 4 ≤ b) → (a = 67 → 8 ≤ b) → M a b = M0 a b
def Qt (x : Bool) (M : tI) (n : Nat) : Prop := ∀ p, p < n → M 65 p = -1 → nxM M x p = none ∧ M 74 p ≠ -1
def NB (C : tI) (x : Bool) (np nt e h : Nat) : Prop := (∀ p, p < np → h < Int32.toNatClampNeg (C 276 p) → e ≤ Int32.toNatClampNeg (C 276 p)) ∧ ∀ t, t < nt → C 278 t = 0 → h < rdy C x t → e ≤ rdy C x t
theorem FS.nx (h0 : Rl x C0 M0 J) (sC : StC C0 C) (sM : StM nt M0 M) (f : FS nt C M h) (en : nt = Int32.toNatClampNeg (M0 0 74)) (eh : M 0 65 = nI h) {p : Nat} (hp : p < 4) (q : M 65 p = -1) : nxC C x 278 277 (C (270 + p) 0) (nI h) = nxM M x p := by
  have hx := tc_P4 x
  have g := h0.H.2.2.2.2.1.1 p hp
  have n74 := h0.n74
  have e64 : M 64 p = M0 64 p := sM 64 p (by omega) (by omega) (by omega) (by omega)
  unfold nxC nxM
  rw [if_pos q, sC (270 + p) 0 (by omega), g.1, sC 41 10 (by omega), h0.nt, sM 0 74 (by omega) (by omega) (by omega) (by omega), e64]
  by_cases q1 : M0 64 p = -1
  · rw [if_pos q1, if_pos q1]
  · obtain ⟨b7, lt⟩ := g.2.2.2.1.resolve_left q1
    have l7 := b7.cl (by omega)
    have go := h0.P.2.2.2.2.2.2.2.1.1 (Int32.toNatClampNeg (M0 64 p)) lt
    have gm := f.2.2.1 (Int32.toNatClampNeg (M0 64 p)) (by omega)
    rw [if_neg q1, if_neg q1, gm, sC (tc_P x + 29) _ (by omega), go.2.1, sM 25 _ (by omega) (by omega) (by omega) (by omega)]
    by_cases q2 : M 67 (Int32.toNatClampNeg (M0 64 p)) < M0 25 (8 * xb x + Int32.toNatClampNeg (M0 64 p))
    · rw [if_pos q2, if_pos q2]
      refine fnd_congr _ _ (fun t _ ht => ?_)
      have ht : t < Int32.toNatClampNeg (M0 0 74) := by omega
      have gt := h0.H.2.2.2.1 t ht
      have ft := f.2.2.2 t (by omega)
      obtain ⟨z1, z2, _⟩ := h0.pz ht
      refine decide_eq_decide.mpr ?_
      unfold ncC ncM
      rw [ft.1, sC (150 + 2 * t) 0 (by omega), gt.1, sC (tc_P x + 28) _ (by omega), go.1, sC (150 + 2 * t) 1 (by omega), gt.2.2.1, sC (tc_P x) 18 (by omega), z1, sC (tc_P x) 19 (by omega), z2, Int32.not_lt, Int32.not_lt, sM 54 t (by omega) (by omega) (by omega) (by omega), sM 24 _ (by omega) (by omega) (by omega) (by omega), sM 32 _ (by omega) (by omega) (by omega) (by omega), sM 33 _ (by omega) (by omega) (by omega) (by omega), sM 56 _ (by omega) (by omega) (by omega) (by omega), eh]
    · rw [if_neg q2, if_neg q2]
theorem FS.rd (h0 : Rl x C0 M0 J) (sC : StC C0 C) (sM : StM nt M0 M) (en : nt = Int32.toNatClampNeg (M0 0 74)) {t : Nat} (ht : t < nt) : rdy C x t = Int32.toNatClampNeg (M 56 t) + Int32.toNatClampNeg (M 32 (xb x)) := by
  have hx := tc_P4 x
  have n74 := h0.n74
  have ht' : t < Int32.toNatClampNeg (M0 0 74) := by omega
  have gt := h0.H.2.2.2.1 t ht'
  obtain ⟨z1, z2, _⟩ := h0.pz ht'
  unfold rdy
  rw [sC (150 + 2 * t) 1 (by omega), gt.2.2.1, sC (tc_P x) 18 (by omega), z1, sM 56 _ (by omega) (by omega) (by omega) (by omega), sM 32 _ (by omega) (by omega) (by omega) (by omega)]
/-- an hour goes by -/
theorem FS.hour (r : Rl x V M J) (en : nt = Int32.toNatClampNeg (M 0 74)) (eh : M 0 65 = nI h) (hl : h < 9999) {np : Nat} (hn : M 20 (xb x) = nI np) (h4 : np ≤ 4) (f : FS nt C M h) : FS nt C (hgM M np (h + 1)) (h + 1) := by
  have c20 : Int32.toNatClampNeg (M 20 (xb x)) = np := by rw [hn]; exact nI_clamp (by omega)
  have hpp := r.H.2.2.2.2.1
  obtain ⟨f1, f2, f3, f4⟩ := f
  refine ⟨fun p hp => ?_, fun p hp => ?_, fun m hm => ?_, fun t ht => ?_⟩
  · rw [hgM_f (by omega) (by omega) (by omega) (by omega)]; exact f1 p hp
  · obtain ⟨g1, g2, g3⟩ := f2 p hp
    refine ⟨g1, ?_⟩
    have e66 : hgM M np (h + 1) 66 p = M 66 p := hgM_f (by omega) (by omega) (by omega) (by omega)
    rw [e66]
    by_cases q : p < np ∧ mFr M (h + 1) p
    · rw [hgM_y q.1 q.2]
      refine ⟨fun _ => ?_, fun w => absurd rfl w⟩
      (rw [(g3 q.2.1).1, q.2.2]; (try simp (disch := omega) only [nI_clamp]))
      exact Nat.le_refl _
    · have e65 : hgM M np (h + 1) 65 p = M 65 p := by
        by_cases q1 : mFr M (h + 1) p
        · have z : ¬ p < np := fun z => q ⟨z, q1⟩
          exact hgM_f (by omega) (by omega) (by omega) (by omega)
        · exact hgM_n q1
      rw [e65]
      exact ⟨fun w => Nat.le_succ_of_le (g2 w), g3⟩
  · rw [hgM_f (by omega) (by omega) (by omega) (by omega)]; exact f3 m hm
  · obtain ⟨g1, g2, g3⟩ := f4 t ht
    by_cases q : ∃ p, p < np ∧ mFr M (h + 1) p ∧ Int32.toNatClampNeg (M 65 p) = t
    · obtain ⟨p, hp, hf, rfl⟩ := q
      have w := (hpp.1 p (by omega)).2.2.2.2.resolve_left hf.1
      have f5 := (f2 p (by omega)).2.2 hf.1
      rw [hgM_sy hp hf, hgM_cy hp hf, f5.2, hf.2]
      refine ⟨⟨fun z => ?_, fun z => absurd z (by decide)⟩, fun z => ?_, fun _ => rfl⟩
      · have := g1.mp z; rw [w.2.2.1] at this; exact absurd this (by decide)
      · rcases z with z | z <;> exact absurd z (by decide)
    · rw [hgM_sn (fun p hp hf e => q ⟨p, hp, hf, e⟩), hgM_cn (fun p hp hf e => q ⟨p, hp, hf, e⟩)]
      exact ⟨g1, g2, g3⟩
theorem StM.hour (sM : StM nt M0 M) (r : Rl x V M J) (en : nt = Int32.toNatClampNeg (M 0 74)) {np : Nat} (h4 : np ≤ 4) (t : Nat) : StM nt M0 (hgM M np t) := by
  have hpp := r.H.2.2.2.2.1
  intro a b q1 q2 q3 q4
  rw [← sM a b q1 q2 q3 q4]
  have no : nt ≤ b → ∀ p, p < np → mFr M t p → Int32.toNatClampNeg (M 65 p) ≠ b := fun hb p hp hf e => by
    have w := (hpp.1 p (by omega)).2.2.2.2.resolve_left hf.1
    have := w.2.1
    omega
  by_cases e5 : a = 55
  · subst e5; exact hgM_sn (no (q2 (by omega)))
  · by_cases e6 : a = 62
    · subst e6; exact hgM_cn (no (q2 (by omega)))
    · exact hgM_f e5 e6 (fun w => by have := q3 (by omega); omega) (fun w => by omega)
theorem Qt.hour (h0 : Rl x C0 M0 J) (sC : StC C0 C) (sM : StM nt M0 M) (r : Rl x V M J) (en : nt = Int32.toNatClampNeg (M0 0 74)) (eh : M 0 65 = nI h) (hl : h < 9999) {np e : Nat} (hn : M 20 (xb x) = nI np) (h4 : np ≤ 4) (f : FS nt C M h) (q : Qt x M np) (nb : NB C x np nt e h) (he : h + 1 < e) : Qt x (hgM M np (h + 1)) np := by
  have n74 := h0.n74
  have hpp := r.H.2.2.2.2.1
  have e74 : M 0 74 = M0 0 74 := sM 0 74 (by omega) (by omega) (by omega) (by omega)
  have ch : Int32.toNatClampNeg (M 0 65) = h := by rw [eh]; exact nI_clamp (by omega)
  intro p hp hq
  have nf : ¬ mFr M (h + 1) p := by
    intro w
    have f5 := (f.2.1 p (by omega)).2.2 w.1
    have e6 : Int32.toNatClampNeg (C 276 p) = h + 1 := by rw [f5.1, w.2]; exact nI_clamp (by omega)
    have := nb.1 p hp (by omega)
    omega
  rw [hgM_n nf] at hq
  obtain ⟨y1, y2⟩ := q p hp hq
  have fM : ∀ a b, a ≠ 55 → a ≠ 62 → a ≠ 65 → a ≠ 0 ∨ b ≠ 65 → hgM M np (h + 1) a b = M a b := fun a b z1 z2 z3 z4 => hgM_f z1 z2 (by omega) (by omega)
  refine ⟨?_, by rw [fM 74 p (by omega) (by omega) (by omega) (by omega)]; exact y2⟩
  unfold nxM at y1 ⊢
  rw [hgM_n nf, if_pos hq, fM 64 p (by omega) (by omega) (by omega) (by omega), fM 67 _ (by omega) (by omega) (by omega) (by omega), fM 25 _ (by omega) (by omega) (by omega) (by omega), fM 0 74 (by omega) (by omega) (by omega) (by omega)]
  rw [if_pos hq] at y1
  by_cases q1 : M 64 p = -1
  · rw [if_pos q1]
  · rw [if_neg q1] at y1 ⊢
    by_cases q2 : M 67 (Int32.toNatClampNeg (M 64 p)) < M 25 (8 * xb x + Int32.toNatClampNeg (M 64 p))
    · rw [if_pos q2] at y1 ⊢
      refine fnd_no _ _ (fun t _ ht => ?_)
      have y := fnd_none _ _ y1 t (by omega) ht
      have ht : t < Int32.toNatClampNeg (M 0 74) := by omega
      refine decide_eq_false (fun w => of_decide_eq_false y ?_)
      obtain ⟨w1, w2, w3, w4⟩ := w
      have gt := r.H.2.2.2.1 t ht
      obtain ⟨_, _, z1, z2⟩ := r.pz ht
      have s0 : M 55 t = 0 := by
        by_cases q3 : ∃ p, p < np ∧ mFr M (h + 1) p ∧ Int32.toNatClampNeg (M 65 p) = t
        · obtain ⟨p', hp', hf', e'⟩ := q3
          rw [← e', hgM_sy hp' hf'] at w1
          exact absurd w1 (by decide)
        · rw [hgM_sn (fun p hp hf e => q3 ⟨p, hp, hf, e⟩)] at w1; exact w1
      rw [fM 54 _ (by omega) (by omega) (by omega) (by omega), fM 24 _ (by omega) (by omega) (by omega) (by omega)] at w2
      rw [hgM_h, fM 32 _ (by omega) (by omega) (by omega) (by omega), fM 56 _ (by omega) (by omega) (by omega) (by omega)] at w3
      rw [hgM_h, fM 33 _ (by omega) (by omega) (by omega) (by omega), fM 56 _ (by omega) (by omega) (by omega) (by omega)] at w4
      have rd := FS.rd (C := C) h0 sC sM en (t := t) (by rw [en, ← e74]; exact ht)
      obtain ⟨b, hb, eb⟩ := gt.2.2.2.2.2.2.2.2.2.2.1
      have bl := gt.2.2.2.2.2.2.2.2.2.2.2.1
      obtain ⟨a, ha, ea⟩ := z1
      obtain ⟨c, hc, ec⟩ := z2
      (rw [eb, ch] at bl; (try simp (disch := omega) only [nI_clamp] at bl))
      rw [ea, eb, nI_sub (by omega) (by omega), nI_leI (by omega) (by omega)] at w3
      rw [ec, eb, nI_sub (by omega) (by omega), nI_leI (by omega) (by omega)] at w4
      (rw [eb, ea] at rd; (try simp (disch := omega) only [nI_clamp] at rd))
      have cs : C 278 t = 0 := (f.2.2.2 t (by rw [en, ← e74]; exact ht)).1.mpr s0
      by_cases q4 : b + a ≤ h
      · refine ⟨s0, w2, ?_, ?_⟩
        · rw [eh, ea, eb, nI_sub (by omega) (by omega), nI_leI (by omega) (by omega)]; omega
        · rw [eh, ec, eb, nI_sub (by omega) (by omega), nI_leI (by omega) (by omega)]; omega
      · exfalso
        have := nb.2 t (by rw [en, ← e74]; exact ht) cs (by omega)
        omega
    · rw [if_neg q2]
theorem NB.hour {np e : Nat} (nb : NB C x np nt e h) : NB C x np nt e (h + 1) := ⟨fun p hp w => nb.1 p hp (by omega), fun t ht s w => nb.2 t ht s (by omega)⟩
theorem wt_2 (f : FS nt C M h) {t : Nat} (ht : t < nt) : wt C x h t ≤ 2 := by
  unfold wt
  obtain ⟨g1, g2, _⟩ := f.2.2.2 t ht
  by_cases q : C 278 t = 0
  · have e := g2 (Or.inl (g1.mp q))
    have e2 : Int32.toNatClampNeg (C 279 t) = 0 := by rw [e]; rfl
    rw [e2, if_neg (show ¬ h < 0 by omega)]
    split <;> split <;> omega
  · rw [if_neg q, if_neg (fun w => q w.1)]
    split <;> omega
end AH
