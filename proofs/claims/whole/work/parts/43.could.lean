/-! could, canBuild -/
/-- the least of those that are so; -1 without -/
def mnP (P : Int32 → Prop) (a : Int32) : Prop := (a = -1 ∧ ∀ v, ¬ P v) ∨ (P a ∧ ∀ v, P v → a ≤ v)
theorem mnP_u {P Q : Int32 → Prop} {a b : Int32} (ha : mnP P a) (hb : mnP Q b) (hPQ : ∀ v, P v ↔ Q v) : a = b := by
  rcases ha with ⟨a1, a2⟩ | ⟨a1, a2⟩
  · rcases hb with ⟨b1, _⟩ | ⟨b1, _⟩
    · rw [a1, b1]
    · exact absurd ((hPQ b).mpr b1) (a2 b)
  · rcases hb with ⟨_, b2⟩ | ⟨b1, b2⟩
    · exact absurd ((hPQ a).mp a1) (b2 a)
    · exact Int32.le_antisymm (a2 b ((hPQ b).mpr b1)) (b2 a ((hPQ a).mp a1))
/-- one more -/
def mnS (a v : Int32) : Int32 := if a = -1 then v else if a ≤ v then a else v
theorem mnP_s {P Q : Int32 → Prop} {a v : Int32} (h : mnP P a) (hP : ∀ u, P u → ¬ u = -1) (hQ : ∀ u, Q u ↔ P u ∨ u = v) : mnP Q (mnS a v) := by
  unfold mnS
  rcases h with ⟨a1, a2⟩ | ⟨a1, a2⟩
  · rw [if_pos a1]
    refine Or.inr ⟨(hQ v).mpr (Or.inr rfl), fun u hu => ?_⟩
    rcases (hQ u).mp hu with w | w
    · exact absurd w (a2 u)
    · rw [w]; exact Int32.le_refl _
  · rw [if_neg (hP a a1)]
    by_cases q : a ≤ v
    · rw [if_pos q]
      refine Or.inr ⟨(hQ a).mpr (Or.inl a1), fun u hu => ?_⟩
      rcases (hQ u).mp hu with w | w
      · exact a2 u w
      · rw [w]; exact q
    · rw [if_neg q]
      refine Or.inr ⟨(hQ v).mpr (Or.inr rfl), fun u hu => ?_⟩
      rcases (hQ u).mp hu with w | w
      · have := a2 u w
        have q2 : v < a := Int32.not_le.mp q
        exact Int32.le_of_lt (Int32.lt_of_lt_of_le q2 this)
      · rw [w]; exact Int32.le_refl _
theorem mnP_c {P Q : Int32 → Prop} {a : Int32} (h : mnP P a) (hQ : ∀ u, Q u ↔ P u) : mnP Q a := by
  rcases h with ⟨a1, a2⟩ | ⟨a1, a2⟩
  · exact Or.inl ⟨a1, fun v hv => a2 v ((hQ v).mp hv)⟩
  · exact Or.inr ⟨(hQ a).mpr a1, fun v hv => a2 v ((hQ v).mp hv)⟩
theorem lp_s {α : Type} (f : Nat → α → α) (n : Nat) (a : α) : lp f (n + 1) a = f n (lp f n a) := rfl
theorem mnS_e (a v : Int32) : mnS a v = if a = -1 then v else if a ≤ v then a else v := rfl
section API8
variable {x : Bool} {C M : tI} {J Jc : tJ}
theorem Rl.stB (h : Rl x C M J) (p : Int32) : ∀ n, n ≤ Int32.toNatClampNeg (M 0 70) → ∃ v, v ≤ 60 * n ∧ stS M x p n = nI v := by
  have nl := h.nlB.cl (by omega)
  intro n
  induction n with
  | zero => intro _; exact ⟨0, by omega, rfl⟩
  | succ n ih =>
    intro hn
    obtain ⟨v, hv, e⟩ := ih (by omega)
    have g := h.H.2.2.1 n (by omega)
    obtain ⟨u, hu, eu⟩ := g.2.2.2.2.2.2.2
    have e1 : stS M x p (n + 1) = stF M x p n (stS M x p n) := rfl
    rw [e1, e]
    unfold stF
    by_cases q : M 51 n = p ∧ fitP M x (Int32.toNatClampNeg (M 52 n))
    · rw [if_pos q, eu, nI_add]; exact ⟨v + u, by omega, rfl⟩
    · rw [if_neg q, Int32.add_zero]; exact ⟨v, by omega, rfl⟩
/-- needs from the class's side and from the model's -/
theorem Rl.ndk (h : Rl x C M J) {s k : Nat} (hs : s < 6) (hk : k < Int32.toNatClampNeg (M 14 (xb x))) (e : M 15 (24 * xb x + k) = nI s) : C (tc_P x + 15 + s) (Int32.toNatClampNeg (M 17 (24 * xb x + k))) = M 16 (24 * xb x + k) := by
  obtain ⟨d1, d2, d3⟩ := h.P.2.2.2.2.2.1
  have g := d2 k hk
  have b17 := g.2.2.1.cl (by omega)
  have e17 := g.2.2.1.eq (by omega)
  rw [d1 s _ hs (by omega)]
  refine ndS_1 _ hk ⟨e, e17⟩ (fun j hj hjk w => ?_)
  rcases Nat.lt_or_gt_of_ne hjk with z | z
  · exact d3 j k z hk ⟨w.1.trans e.symm, w.2.trans e17.symm⟩
  · exact d3 k j z hj ⟨e.trans w.1.symm, e17.trans w.2.symm⟩
theorem Rl.ndq (h : Rl x C M J) {s q : Nat} (hs : s < 6) (hq : q < 8) : (C (tc_P x + 15 + s) q = 0 ∧ ∀ k, k < Int32.toNatClampNeg (M 14 (xb x)) → ¬ (M 15 (24 * xb x + k) = nI s ∧ M 17 (24 * xb x + k) = nI q)) ∨ ∃ k, k < Int32.toNatClampNeg (M 14 (xb x)) ∧ M 15 (24 * xb x + k) = nI s ∧ M 17 (24 * xb x + k) = nI q ∧ C (tc_P x + 15 + s) q = M 16 (24 * xb x + k) := by
  have e := h.nd hs hq
  unfold ndF at e
  cases hf : fnd (fun k => decide (M 15 (24 * xb x + k) = nI s ∧ M 17 (24 * xb x + k) = nI q)) (Int32.toNatClampNeg (M 14 (xb x))) 0 with
  | none =>
    rw [hf] at e
    refine Or.inl ⟨e, fun k hk => ?_⟩
    have r := fnd_none _ _ hf k (by omega) (by omega)
    rw [decide_eq_false_iff_not] at r; exact r
  | some k =>
    rw [hf] at e
    obtain ⟨_, q2, q3, _⟩ := fnd_some _ _ _ hf
    have q3 := of_decide_eq_true q3
    exact Or.inr ⟨k, by omega, q3.1, q3.2, e⟩
/-- what can be built of the first n needs, of the first n parts -/
def cdM (M : tI) (x : Bool) (s k : Nat) (a : Int32) : Int32 := if M 15 (24 * xb x + k) = nI s then mnS a (stS M x (M 17 (24 * xb x + k)) (Int32.toNatClampNeg (M 0 70)) / M 16 (24 * xb x + k)) else a
def cdC (C M : tI) (x : Bool) (s q : Nat) (a : Int32) : Int32 := if C (tc_P x + 15 + s) q ≤ 0 then a else mnS a (stS M x (nI q) (Int32.toNatClampNeg (M 0 70)) / C (tc_P x + 15 + s) q)
theorem cdM_e (M : tI) (x : Bool) (s k : Nat) (a : Int32) : cdM M x s k a = if M 15 (24 * xb x + k) = nI s then mnS a (stS M x (M 17 (24 * xb x + k)) (Int32.toNatClampNeg (M 0 70)) / M 16 (24 * xb x + k)) else a := rfl
theorem cdC_e (C M : tI) (x : Bool) (s q : Nat) (a : Int32) : cdC C M x s q a = if C (tc_P x + 15 + s) q ≤ 0 then a else mnS a (stS M x (nI q) (Int32.toNatClampNeg (M 0 70)) / C (tc_P x + 15 + s) q) := rfl
def cdV (M : tI) (x : Bool) (s n : Nat) (v : Int32) : Prop := ∃ k, k < n ∧ M 15 (24 * xb x + k) = nI s ∧ v = stS M x (M 17 (24 * xb x + k)) (Int32.toNatClampNeg (M 0 70)) / M 16 (24 * xb x + k)
def cdW (C M : tI) (x : Bool) (s n : Nat) (v : Int32) : Prop := ∃ q, q < n ∧ ¬ C (tc_P x + 15 + s) q ≤ 0 ∧ v = stS M x (nI q) (Int32.toNatClampNeg (M 0 70)) / C (tc_P x + 15 + s) q
theorem Rl.dv (h : Rl x C M J) (p : Int32) {m : Int32} (hm : bd m 9) (h1 : 1 ≤ Int32.toNatClampNeg m) : ∃ v, v ≤ 2400 ∧ stS M x p (Int32.toNatClampNeg (M 0 70)) / m = nI v := by
  have nl := h.nlB.cl (by omega)
  obtain ⟨u, hu, e⟩ := h.stB p _ (Nat.le_refl _)
  obtain ⟨w, hw, rfl⟩ := hm
  ((try simp (disch := omega) only [nI_clamp] at h1))
  rw [e, nI_div (by omega) (by omega) (by omega)]
  exact ⟨u / w, Nat.le_trans (Nat.div_le_self _ _) (by omega), rfl⟩
theorem Rl.mnM (h : Rl x C M J) (s : Nat) : ∀ n, n ≤ Int32.toNatClampNeg (M 14 (xb x)) → mnP (cdV M x s n) (lp (cdM M x s) n (-1)) ∧ ∀ u, cdV M x s n u → ∃ v, v ≤ 2400 ∧ u = nI v := by
  obtain ⟨d1, d2, d3⟩ := h.P.2.2.2.2.2.1
  intro n
  induction n with
  | zero => intro _; exact ⟨Or.inl ⟨rfl, fun v ⟨k, hk, _⟩ => by omega⟩, fun v ⟨k, hk, _⟩ => by omega⟩
  | succ n ih =>
    intro hn
    obtain ⟨ih1, ih2⟩ := ih (by omega)
    have g := d2 n (by omega)
    obtain ⟨v, hv, ev⟩ := h.dv (M 17 (24 * xb x + n)) g.2.2.2.2.1 g.2.2.2.2.2
    have sp : ∀ u, cdV M x s (n + 1) u ↔ cdV M x s n u ∨ (M 15 (24 * xb x + n) = nI s ∧ u = nI v) := by
      intro u
      constructor
      · rintro ⟨k, hk, e1, e2⟩
        by_cases e : k = n
        · subst e; exact Or.inr ⟨e1, e2.trans ev⟩
        · exact Or.inl ⟨k, by omega, e1, e2⟩
      · rintro (⟨k, hk, e1, e2⟩ | ⟨e1, e2⟩)
        · exact ⟨k, by omega, e1, e2⟩
        · exact ⟨n, by omega, e1, e2.trans ev.symm⟩
    refine ⟨?_, fun u hu => ?_⟩
    · rw [lp_s, cdM_e]
      by_cases e : M 15 (24 * xb x + n) = nI s
      · rw [if_pos e, ev]
        refine mnP_s ih1 (fun u hu => ?_) (fun u => (sp u).trans ⟨fun w => w.imp id And.right, fun w => w.imp id (fun z => ⟨e, z⟩)⟩)
        obtain ⟨w, hw, ew⟩ := ih2 u hu
        rw [ew]; exact nI_ne (by omega)
      · rw [if_neg e]
        exact mnP_c ih1 (fun u => (sp u).trans ⟨fun w => w.resolve_right (fun z => e z.1), Or.inl⟩)
    · rcases (sp u).mp hu with w | ⟨_, w⟩
      · exact ih2 u w
      · exact ⟨v, hv, w⟩
theorem Rl.needB (h : Rl x C M J) {s q : Nat} (hs : s < 6) (hq : q < 8) (hp : ¬ C (tc_P x + 15 + s) q ≤ 0) : bd (C (tc_P x + 15 + s) q) 9 ∧ 1 ≤ Int32.toNatClampNeg (C (tc_P x + 15 + s) q) := by
  rcases h.ndq hs hq with w | ⟨k, hk, _, _, e⟩
  · rw [w.1] at hp; exact absurd (Int32.le_refl _) hp
  · have g := h.P.2.2.2.2.2.1.2.1 k hk
    rw [e]; exact ⟨g.2.2.2.2.1, g.2.2.2.2.2⟩
theorem Rl.mnC (h : Rl x C M J) {s : Nat} (hs : s < 6) : ∀ n, n ≤ 8 → mnP (cdW C M x s n) (lp (cdC C M x s) n (-1)) ∧ ∀ u, cdW C M x s n u → ∃ v, v ≤ 2400 ∧ u = nI v := by
  intro n
  induction n with
  | zero => intro _; exact ⟨Or.inl ⟨rfl, fun v ⟨k, hk, _⟩ => by omega⟩, fun v ⟨k, hk, _⟩ => by omega⟩
  | succ n ih =>
    intro hn
    obtain ⟨ih1, ih2⟩ := ih (by omega)
    by_cases e : C (tc_P x + 15 + s) n ≤ 0
    · have sp : ∀ u, cdW C M x s (n + 1) u ↔ cdW C M x s n u := by
        intro u
        constructor
        · rintro ⟨k, hk, e1, e2⟩
          by_cases q : k = n
          · subst q; exact absurd e e1
          · exact ⟨k, by omega, e1, e2⟩
        · rintro ⟨k, hk, e1, e2⟩; exact ⟨k, by omega, e1, e2⟩
      rw [lp_s, cdC_e]
      rw [if_pos e]
      exact ⟨mnP_c ih1 sp, fun u hu => ih2 u ((sp u).mp hu)⟩
    · obtain ⟨n1, n2⟩ := h.needB hs (by omega) e
      obtain ⟨v, hv, ev⟩ := h.dv (nI n) n1 n2
      have sp : ∀ u, cdW C M x s (n + 1) u ↔ cdW C M x s n u ∨ u = nI v := by
        intro u
        constructor
        · rintro ⟨k, hk, e1, e2⟩
          by_cases q : k = n
          · subst q; exact Or.inr (e2.trans ev)
          · exact Or.inl ⟨k, by omega, e1, e2⟩
        · rintro (⟨k, hk, e1, e2⟩ | e2)
          · exact ⟨k, by omega, e1, e2⟩
          · exact ⟨n, by omega, e, e2.trans ev.symm⟩
      rw [lp_s, cdC_e]
      rw [if_neg e, ev]
      refine ⟨mnP_s ih1 (fun u hu => ?_) sp, fun u hu => ?_⟩
      · obtain ⟨w, hw, ew⟩ := ih2 u hu
        rw [ew]; exact nI_ne (by omega)
      · rcases (sp u).mp hu with w | w
        · exact ih2 u w
        · exact ⟨v, hv, w⟩
/-- what could be built: both sides -/
def cdS (M : tI) (x : Bool) (s : Nat) : Int32 := lp (cdM M x s) (Int32.toNatClampNeg (M 14 (xb x))) (-1)
theorem Rl.cdE (h : Rl x C M J) {s : Nat} (hs : s < 6) : lp (cdC C M x s) (Int32.toNatClampNeg (M 6 (xb x))) (-1) = cdS M x s := by
  have b6 := h.n6.2.cl (by omega)
  have b14 := h.n14.2.cl (by omega)
  refine mnP_u (h.mnC hs _ b6).1 (h.mnM s _ (Nat.le_refl _)).1 (fun v => ?_)
  constructor
  · rintro ⟨q, hq, e1, e2⟩
    rcases h.ndq hs (q := q) (by omega) with w | ⟨k, hk, w1, w2, w3⟩
    · rw [w.1] at e1; exact absurd (Int32.le_refl _) e1
    · exact ⟨k, hk, w1, by rw [w2, ← w3]; exact e2⟩
  · rintro ⟨k, hk, e1, e2⟩
    have g := h.P.2.2.2.2.2.1.2.1 k hk
    have nk := h.ndk hs hk e1
    have e17 := g.2.2.1.eq (by omega)
    refine ⟨Int32.toNatClampNeg (M 17 (24 * xb x + k)), g.2.2.2.1, ?_, ?_⟩
    · rw [nk]
      obtain ⟨w, hw, ew⟩ := g.2.2.2.2.1
      have w1 := g.2.2.2.2.2
      (rw [ew] at w1; (try simp (disch := omega) only [nI_clamp] at w1))
      rw [ew]; exact nI_nle (by omega) (by omega)
    · rw [nk, ← e17]; exact e2
theorem Rl.cdB (h : Rl x C M J) (s : Nat) : cdS M x s = -1 ∨ ∃ v, v ≤ 2400 ∧ cdS M x s = nI v := by
  obtain ⟨h1, h2⟩ := h.mnM s _ (Nat.le_refl _)
  rcases h1 with w | w
  · exact Or.inl w.1
  · exact Or.inr (h2 _ w.1)
theorem Rl.coM (h : Rl x C M J) (s d : Nat) : am_G (am_ev (d + 4)) 236 [.ref 0, .int (nI s)] (M, J, tm_R, tm_S, 77, 21637) = some (some (.int (cdS M x s)), (M, J, tm_R, tm_S, 77, 21637)) := by
  have hx := xb1 x
  have b14 := h.n14.2.cl (by omega)
  have e14 := h.n14.2.eq (by omega)
  have e24 : (24 : Int32) * M 0 12 = nI (24 * xb x) := by rw [h.B]; exact nI_mul 24 (xb x)
  have run : ∀ k, k ≤ Int32.toNatClampNeg (M 14 (xb x)) → ∃ v, am_ev (d + 4) 236 10 [.ref 0, .int (nI s), .int (-1), .int (nI (24 * xb x)), am_un] [] (M, J, tm_R, tm_S, 77, 21637) = am_ev (d + 4) 236 10 [.ref 0, .int (nI s), .int (lp (cdM M x s) k (-1)), .int (nI (24 * xb x + k)), v] [] (M, J, tm_R, tm_S, 77, 21637) := by
    intro k
    induction k with
    | zero => intro _; exact ⟨am_un, rfl⟩
    | succ k ih =>
      intro hk
      obtain ⟨v, e⟩ := ih (by omega)
      have g := h.P.2.2.2.2.2.1.2.1 k (by omega)
      have i48 : am_in (nI (24 * xb x + k)) 48 := nI_in (by omega) (by omega)
      have c48 : (nI (24 * xb x + k)).toNatClampNeg = 24 * xb x + k := nI_clamp (by omega)
      (rw [e, b236_10, if_pos h.inB]; (try simp only [h.cB]); rw [e24, e14, nI_add, if_neg (nI_ge (by omega) (by omega)), if_pos i48]; (try simp only [c48]); rw [nI_1])
      rw [lp_s, cdM_e]
      by_cases q : M 15 (24 * xb x + k) = nI s
      · have n0 : ¬ M 16 (24 * xb x + k) = 0 := by
          obtain ⟨w, hw, ew⟩ := g.2.2.2.2.1
          have w1 := g.2.2.2.2.2
          (rw [ew] at w1; (try simp (disch := omega) only [nI_clamp] at w1))
          rw [ew]; exact nI_ne0 (by omega) (by omega)
        (rw [if_pos q, if_pos q, if_pos i48, h.stkM, am_call_s, am_toL, b236_54, if_pos i48]; (try simp only [c48]); rw [if_neg n0, nI_1])
        rw [mnS_e]
        by_cases q1 : lp (cdM M x s) k (-1) = -1
        · rw [if_pos q1, if_pos q1]; exact ⟨_, rfl⟩
        · rw [if_neg q1, if_neg q1]
          by_cases q2 : lp (cdM M x s) k (-1) ≤ stS M x (M 17 (24 * xb x + k)) (Int32.toNatClampNeg (M 0 70)) / M 16 (24 * xb x + k)
          · rw [if_pos q2, if_pos q2]; exact ⟨_, rfl⟩
          · rw [if_neg q2, if_neg q2]; exact ⟨_, rfl⟩
      · rw [if_neg q, if_neg q]; exact ⟨_, rfl⟩
  obtain ⟨v, e⟩ := run _ (Nat.le_refl _)
  (rw [b236_0, e24, e, b236_10, if_pos h.inB]; (try simp only [h.cB]); rw [e24, e14, nI_add]; (try simp (disch := omega) only [nI_clamp]); rw [if_pos (Int32.le_refl _)])
  rfl
theorem c18 : (Int32.toNatClampNeg 1) = 1 := rfl
theorem i19 : am_in (1 : Int32) 9 := by decide
theorem Rl.coC (h : Rl x C M J) {s : Nat} (hs : s < 6) (d : Nat) : am_G (am_ev (d + 3)) 21 [.ref 41, .int (nI s)] (C, Jc, (tc_R x), tc_S, 289, 11479) = some (some (.int (cdS M x s)), (C, Jc, (tc_R x), tc_S, 289, 11479)) := by
  have hp4 := tc_P4 x
  have b6 := h.n6.2.cl (by omega)
  have e6 := h.n6.2.eq (by omega)
  have i6 : am_in (nI s) 6 := nI_in hs (by omega)
  have cs : (nI s).toNatClampNeg = s := nI_clamp (by omega)
  have run : ∀ k, k ≤ Int32.toNatClampNeg (M 6 (xb x)) → ∃ v w, am_ev (d + 3) 21 4 [.ref 41, .int (nI s), .int (-1), .int (nI 0), am_un, am_un] [] (C, Jc, (tc_R x), tc_S, 289, 11479) = am_ev (d + 3) 21 4 [.ref 41, .int (nI s), .int (lp (cdC C M x s) k (-1)), .int (nI k), v, w] [] (C, Jc, (tc_R x), tc_S, 289, 11479) := by
    intro k
    induction k with
    | zero => intro _; exact ⟨am_un, am_un, rfl⟩
    | succ k ih =>
      intro hk
      obtain ⟨v, w, e⟩ := ih (by omega)
      (rw [e, b21_4, if_pos i19, c18, h.n6.1, e6, if_neg (nI_ge (by omega) (by omega)), if_pos i6]; (try simp only [cs]); rw [ts_nd x s hs, if_pos ⟨rfl, by omega⟩, if_pos (nI_in (by omega) (by omega))]; (try simp (disch := omega) only [nI_clamp]); rw [nI_1])
      rw [lp_s, cdC_e]
      by_cases q : C (tc_P x + 15 + s) k ≤ 0
      · rw [if_pos q, if_pos q]; exact ⟨_, _, rfl⟩
      · have n0 : ¬ C (tc_P x + 15 + s) k = 0 := fun z => q (by rw [z]; exact Int32.le_refl _)
        rw [if_neg q, if_neg q, h.stkC, am_call_s, am_toL, b21_40, if_neg n0]
        rw [mnS_e]
        by_cases q1 : lp (cdC C M x s) k (-1) = -1
        · rw [if_pos q1, if_pos q1, b21_61, nI_1]; exact ⟨_, _, rfl⟩
        · rw [if_neg q1, if_neg q1, b290_0]
          by_cases q2 : lp (cdC C M x s) k (-1) ≤ stS M x (nI k) (Int32.toNatClampNeg (M 0 70)) / C (tc_P x + 15 + s) k
          · rw [if_neg (Int32.not_lt.mpr q2), if_pos q2, am_call_s, am_toL, b21_61, nI_1]; exact ⟨_, _, rfl⟩
          · rw [if_pos (Int32.not_le.mp q2), if_neg q2, am_call_s, am_toL, b21_61, nI_1]; exact ⟨_, _, rfl⟩
  obtain ⟨v, w, e⟩ := run _ (Nat.le_refl _)
  rw [b21_0, (show (0 : Int32) = nI 0 from rfl), e, b21_4, if_pos i19, c18, h.n6.1, if_pos (by rw [← e6]; exact Int32.le_refl _), h.cdE hs]
theorem k_could (h : Rl x C M J) (a : Int32) : Lk 134 254 [.int a] x C M Jc J := by
  rcases h.kind (Jc := Jc) (q := 2) (by omega) a 98 97 with ⟨e1, e2⟩ | ⟨s, hs, rfl, hs6, e1, e2⟩
  · exact ⟨-1, x, C, M, J, by rw [b134_0, (show (2 : Int32) = nI 2 from rfl), e1, am_call_s, am_toL, b134_12, if_pos rfl], by rw [b254_0, (show (2 : Int32) = nI 2 from rfl), e2, am_call_s, am_toL, b254_6, if_pos rfl], h⟩
  · have hs6 : s < 6 := hs6
    exact ⟨cdS M x s, x, C, M, J, by rw [b134_0, (show (2 : Int32) = nI 2 from rfl), e1, am_call_s, am_toL, b134_12, if_neg (by decide : ¬ (1 : Int32) = 0), h.coC hs6, am_call_s, am_toL, b134_23], by rw [b254_0, (show (2 : Int32) = nI 2 from rfl), e2, am_call_s, am_toL, b254_6, if_neg (by decide : ¬ (1 : Int32) = 0), h.coM, am_call_s, am_toL, b254_14], h⟩
/-- can a size be built -/
abbrev cbP (M : tI) (x : Bool) (s : Nat) : Prop := 0 < cdS M x s ∧ M 0 74 < 60 ∧ M 0 65 + 1 + chg M x (M 0 89) s ≤ 9999
theorem Rl.last' (h : Rl x C M J) : M 0 89 = -1 ∨ ∃ i, i < Int32.toNatClampNeg (M 11 (xb x)) ∧ M 0 89 = nI i := by
  rcases h.lastB with w | w
  · exact Or.inl w
  · exact Or.inr ⟨_, w.2, w.1.eq (by omega)⟩
theorem Rl.cbM (h : Rl x C M J) {s : Nat} (hs : s < Int32.toNatClampNeg (M 11 (xb x))) (d : Nat) : am_G (am_ev (d + 5)) 238 [.ref 0, .int (nI s)] (M, J, tm_R, tm_S, 77, 21637) = some (some (.int (am_b (cbP M x s))), (M, J, tm_R, tm_S, 77, 21637)) := by
  rw [b238_0, h.coM, am_call_s, am_toL, b238_5]
  by_cases q1 : cdS M x s ≤ 0
  · rw [if_pos q1, am_b0 (fun w => absurd w.1 (Int32.not_lt.mpr q1))]
  · rw [if_neg q1]
    by_cases q2 : 60 ≤ M 0 74
    · rw [if_pos q2, am_b0 (fun w => absurd w.2.1 (Int32.not_lt.mpr q2))]
    · rw [if_neg q2, h.hbM h.last' hs, am_call_s, am_toL, b238_32]
      by_cases q3 : 9999 < M 0 65 + 1 + chg M x (M 0 89) s
      · rw [if_pos q3, am_b0 (fun w => absurd w.2.2 (Int32.not_le.mpr q3))]
      · rw [if_neg q3, am_b1 ⟨Int32.not_le.mp q1, Int32.not_le.mp q2, Int32.not_lt.mp q3⟩]
theorem Rl.cbC (h : Rl x C M J) {s : Nat} (hs : s < Int32.toNatClampNeg (M 11 (xb x))) (d : Nat) : am_G (am_ev (d + 4)) 23 [.ref 41, .int (nI s)] (C, Jc, (tc_R x), tc_S, 289, 11479) = some (some (.int (am_b (cbP M x s))), (C, Jc, (tc_R x), tc_S, 289, 11479)) := by
  have b11 := h.n11.2.cl (by omega)
  rw [b23_0, h.nt]
  by_cases q2 : 60 ≤ M 0 74
  · rw [if_pos q2, am_b0 (fun w => absurd w.2.1 (Int32.not_lt.mpr q2))]
  · rw [if_neg q2, b22_0, h.last, h.hbC h.last' hs, am_call_s, am_toL, b22_18, am_call_s, am_toL, b23_14, h.hour]
    by_cases q3 : 9999 < M 0 65 + 1 + chg M x (M 0 89) s
    · rw [if_pos q3, am_b0 (fun w => absurd w.2.2 (Int32.not_le.mpr q3))]
    · rw [if_neg q3, h.coC (by omega), am_call_s, am_toL, b23_25]
      by_cases q1 : cdS M x s ≤ 0
      · rw [if_pos q1, am_b0 (fun w => absurd w.1 (Int32.not_lt.mpr q1))]
      · rw [if_neg q1, am_b1 ⟨Int32.not_le.mp q1, Int32.not_le.mp q2, Int32.not_lt.mp q3⟩]
end API8
