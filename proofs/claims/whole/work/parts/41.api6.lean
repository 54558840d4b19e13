/-! mount, needs, change -/
section API6
variable {x : Bool} {C M : tI} {J Jc : tJ}
def mtO (C : tI) (p : Nat) : tI := if C (270 + p) 0 = -1 then C else am_u2 C 84 (Int32.toNatClampNeg (C (270 + p) 0)) (-1)
def mtC (C : tI) (p m : Nat) : tI := am_u2 (am_u2 (am_u2 (mtO C p) (270 + p) 0 (nI m)) 84 m (nI p)) 41 3 (C 41 3 + 1)
def mtM (M : tI) (p m : Nat) : tI := am_u2 (am_u2 M 64 p (nI m)) 0 90 (M 0 90 + 1)
theorem mtO_f {p a b : Nat} (h : a ≠ 84) : mtO C p a b = C a b := by
  unfold mtO; split
  · rfl
  · exact u2_c h
theorem Rl.mount (h : Rl x C M J) {p m : Nat} (hp : p < Int32.toNatClampNeg (M 20 (xb x))) (hm : m < Int32.toNatClampNeg (M 22 (xb x))) (c1 : C 84 m = -1) (q0 : M 65 p = -1) : Rl x (mtC C p m) (mtM M p m) J := by
  have hx := tc_P4 x
  have n74 := h.n74
  have n66 := h.nbB.cl (by omega)
  have n70 := h.nlB.cl (by omega)
  have b20 := h.n20.2.cl (by omega)
  have b22 := h.n22.2.cl (by omega)
  obtain ⟨h0, hb, hl, htt, hpp, hmm⟩ := h.H
  have fC : ∀ a b, a ≠ 84 → (a = 270 + p → b ≠ 0) → (a = 41 → b ≠ 3) → mtC C p m a b = C a b := by
    intro a b q1 q2 q3
    unfold mtC
    rw [fr1 (by omega), fr1 (by omega), fr1 (by omega), mtO_f q1]
  have fM : ∀ a b, (a = 64 → b ≠ p) → (a = 0 → b ≠ 90) → mtM M p m a b = M a b := by
    intro a b q1 q2
    unfold mtM
    rw [fr1 (by omega), fr1 (by omega)]
  have nom : ∀ q, q < 4 → M 64 q ≠ nI m := by
    rcases hmm.2 m hm with w | ⟨r, hr, w, _⟩
    · exact w.2
    · rw [c1] at w; exact absurd w.symm (nI_ne (by omega))
  have p0 : mtC C p m (270 + p) 0 = nI m := by unfold mtC; rw [u2_c (by omega), u2_c (by omega), u2_s]
  have m64 : mtM M p m 64 p = nI m := by unfold mtM; rw [u2_c (by omega), u2_s]
  have gp := hpp.1 p (by omega)
  have c84 : ∀ k, k ≠ m → mtC C p m 84 k = mtO C p 84 k := by
    intro k hk
    unfold mtC
    rw [u2_c (by omega), u2_p hk, u2_c (by omega)]
  refine h.flr ⟨?_, hb.fr n66 (fun a b _ => fC a b (by omega) (by omega) (by omega)) (fun a b _ => fM a b (by omega) (by omega)), hl.fr n70 (fun a b _ => fC a b (by omega) (by omega) (by omega)) (fun a b _ => fM a b (by omega) (by omega)), htt.fr n74 (fun a b _ => fC a b (by omega) (by omega) (by omega)) (fun a b _ => fM a b (by omega) (by omega)), ?_, ?_⟩ (h.V.fr n74 (fun a b _ => fC a b (by omega) (by omega) (by omega)) (fun a b _ => fM a b (by omega) (by omega))) (fun a b _ => fC a b (by omega) (by omega) (by omega)) (fun a b _ => fM a b (by omega) (by omega))
  · unfold rl_H0 at h0 ⊢
    simp only [fC 41 1 (by omega) (by omega) (by omega), fC 41 2 (by omega) (by omega) (by omega), fC 41 5 (by omega) (by omega) (by omega), fC 41 7 (by omega) (by omega) (by omega), fC 41 10 (by omega) (by omega) (by omega), fM 0 65 (by omega) (by omega), fM 0 89 (by omega) (by omega), fM 0 66 (by omega) (by omega), fM 0 70 (by omega) (by omega), fM 0 74 (by omega) (by omega), fun b => fM 11 b (by omega) (by omega)]
    refine ⟨h0.1, h0.2.1, h0.2.2.1, h0.2.2.2.1, ?_, h0.2.2.2.2.2⟩
    have e1 : mtC C p m 41 3 = C 41 3 + 1 := u2_s
    have e2 : mtM M p m 0 90 = M 0 90 + 1 := u2_s
    rw [e1, e2, h0.2.2.2.2.1]
  · unfold rl_Hp at hpp ⊢
    simp only [fM 0 65 (by omega) (by omega), fM 0 74 (by omega) (by omega), fun b => fM 13 b (by omega) (by omega), fun b => fM 20 b (by omega) (by omega), fun b => fM 22 b (by omega) (by omega), fun b => fM 54 b (by omega) (by omega), fun b => fM 55 b (by omega) (by omega), fun b => fM 65 b (by omega) (by omega), fun b => fM 66 b (by omega) (by omega)]
    refine ⟨fun q hq => ?_, fun q r hqr hr => ?_, hpp.2.2⟩
    · have g := hpp.1 q hq
      rw [fC _ 1 (by omega) (by omega) (by omega), fC _ 2 (by omega) (by omega) (by omega)]
      by_cases e : q = p
      · subst e
        rw [p0, m64]
        exact ⟨rfl, g.2.1, fun w => by omega, Or.inr ⟨bd_nI (by omega), by ((try simp (disch := omega) only [nI_clamp])); exact hm⟩, Or.inl q0⟩
      · rw [fC _ 0 (by omega) (by omega) (by omega), fM 64 q (by omega) (by omega)]
        refine ⟨g.1, g.2.1, g.2.2.1, g.2.2.2.1, ?_⟩
        rcases g.2.2.2.2 with w | w
        · exact Or.inl w
        · refine Or.inr ?_
          have hq : Int32.toNatClampNeg (M 65 q) < 60 := by have := w.2.1; omega
          rw [fC (150 + 2 * Int32.toNatClampNeg (M 65 q)) 6 (by omega) (by omega) (by omega)]
          exact w
    · have g := hpp.2.1 q r hqr hr
      refine ⟨?_, g.2⟩
      by_cases e : q = p
      · subst e
        rw [m64, fM 64 r (by omega) (by omega)]
        exact Or.inr (fun w => nom r hr w.symm)
      · rw [fM 64 q (by omega) (by omega)]
        by_cases e2 : r = p
        · subst e2
          rw [m64]
          exact Or.inr (nom q (by omega))
        · rw [fM 64 r (by omega) (by omega)]; exact g.1
  · unfold rl_Hm at hmm ⊢
    simp only [fun b => fM 20 b (by omega) (by omega), fun b => fM 22 b (by omega) (by omega), fun b => fM 67 b (by omega) (by omega), fun b => fC 85 b (by omega) (by omega) (by omega)]
    refine ⟨hmm.1, fun k hk => ?_⟩
    by_cases e : k = m
    · subst e
      refine Or.inr ⟨p, hp, ?_, m64⟩
      unfold mtC; rw [u2_c (by omega), u2_s]
    · rw [c84 k e]
      have nmk : nI m ≠ nI k := fun w => e ((nI_eq (by omega) (by omega)).mp w).symm
      rcases hmm.2 k hk with ⟨w1, w2⟩ | ⟨r, hr, w1, w2⟩
      · refine Or.inl ⟨?_, fun q hq => ?_⟩
        · unfold mtO; split
          · exact w1
          · by_cases e2 : k = Int32.toNatClampNeg (C (270 + p) 0)
            · rw [← e2, u2_s]
            · rw [u2_p e2]; exact w1
        · by_cases e2 : q = p
          · subst e2; rw [m64]; exact nmk
          · rw [fM 64 q (by omega) (by omega)]; exact w2 q hq
      · by_cases e2 : r = p
        · subst e2
          have o : C (270 + r) 0 = nI k := by rw [gp.1, w2]
          refine Or.inl ⟨?_, fun q hq => ?_⟩
          · unfold mtO
            (rw [if_neg (by rw [o]; exact nI_ne (by omega)), o]; (try simp (disch := omega) only [nI_clamp]); rw [u2_s])
          · by_cases e3 : q = r
            · subst e3; rw [m64]; exact nmk
            · rw [fM 64 q (by omega) (by omega)]
              intro w
              rcases Nat.lt_or_gt_of_ne e3 with z | z
              · rcases (hpp.2.1 q r z (by omega)).1 with y | y
                · rw [w] at y; exact nI_ne (by omega) y
                · exact y (by rw [w, w2])
              · rcases (hpp.2.1 r q z hq).1 with y | y
                · rw [w2] at y; exact nI_ne (by omega) y
                · exact y (by rw [w, w2])
        · refine Or.inr ⟨r, hr, ?_, by rw [fM 64 r (by omega) (by omega)]; exact w2⟩
          rw [← w1]
          unfold mtO
          split
          · rfl
          · rename_i nn
            have ne : k ≠ Int32.toNatClampNeg (C (270 + p) 0) := by
              intro w
              rcases gp.2.2.2.1 with y | y
              · rw [gp.1] at nn; exact nn y
              · have z := y.1.eq (by omega)
                rw [gp.1] at w
                rw [← w] at z
                rcases Nat.lt_or_gt_of_ne e2 with u | u
                · rcases (hpp.2.1 r p u (by omega)).1 with v | v
                  · rw [w2] at v; exact nI_ne (by omega) v
                  · exact v (by rw [z, w2])
                · rcases (hpp.2.1 p r u (by omega)).1 with v | v
                  · rw [z] at v; exact nI_ne (by omega) v
                  · exact v (by rw [z, w2])
            exact u2_p ne
theorem k_mount (h : Rl x C M J) (a w : Int32) : Lk 126 241 [.int a, .int w] x C M Jc J := by
  have bad := fun e1 e2 => (⟨0, x, _, _, J, e1, e2, h.ref 3 (by omega)⟩ : Lk 126 241 [.int a, .int w] x C M Jc J)
  rcases h.kind (Jc := Jc) (q := 3) (by omega) a 98 97 with ⟨e1, e2⟩ | ⟨p, hp, rfl, hp4, e1, e2⟩
  · refine bad (by rw [b126_0, (show (3 : Int32) = nI 3 from rfl), e1, am_call_s, am_toL, b126_12, if_pos rfl, crk _ _ _ _ 3 3 rfl (by omega), am_call_s, am_toL, b126_64]) ?_
    rw [b241_0, (show (3 : Int32) = nI 3 from rfl), e2, am_call_s, am_toL, b241_6, if_pos rfl, mrk _ _ _ 3 3 rfl (by omega), am_call_s, am_toL, b241_42]
    exact if_pos (by decide)
  have hp4 : p < 4 := hp4
  have hp : p < Int32.toNatClampNeg (M 20 (xb x)) := hp
  have f1 := Eq.refl (am_G (am_ev 100) 126 [.ref 0, .int (nI p), .int w] (C, Jc, (tc_R x), tc_S, 289, 11479))
  conv at f1 => rhs; rw [b126_0, (show (3 : Int32) = nI 3 from rfl), e1, am_call_s, am_toL, b126_12, if_neg (by decide : ¬ (1 : Int32) = 0), (show (4 : Int32) = nI 4 from rfl)]
  have f2 := Eq.refl (am_G (am_ev 100) 241 [.ref 0, .int (nI p), .int w] (M, J, tm_R, tm_S, 77, 21637))
  conv at f2 => rhs; rw [b241_0, (show (3 : Int32) = nI 3 from rfl), e2, am_call_s, am_toL, b241_6, if_neg (by decide : ¬ (1 : Int32) = 0), (show (4 : Int32) = nI 4 from rfl)]
  rcases h.kind (Jc := Jc) (q := 4) (by omega) w 98 97 with ⟨e3, e4⟩ | ⟨m, hm, rfl, hm8, e3, e4⟩
  · refine bad (by rw [f1, e3, am_call_s, am_toL, b126_27, if_pos rfl, crk _ _ _ _ 3 3 rfl (by omega), am_call_s, am_toL, b126_64]) ?_
    rw [f2, e4, am_call_s, am_toL, b241_15, if_pos rfl, mrk _ _ _ 3 3 rfl (by omega), am_call_s, am_toL, b241_42]
    exact if_pos (by decide)
  have hm8 : m < 8 := hm8
  have hm : m < Int32.toNatClampNeg (M 22 (xb x)) := hm
  have i8 : am_in (nI m) 8 := nI_in hm8 (by omega)
  have cm : (nI m).toNatClampNeg = m := nI_clamp (by omega)
  have i4 : am_in (nI p) 4 := nI_in hp4 (by omega)
  have cp : (nI p).toNatClampNeg = p := nI_clamp (by omega)
  have gp := h.H.2.2.2.2.1.1 p hp4
  have f3 := Eq.refl (am_G (am_ev 100) 126 [.ref 0, .int (nI p), .int (nI m)] (C, Jc, (tc_R x), tc_S, 289, 11479))
  conv at f3 => rhs; rw [f1, e3, am_call_s, am_toL, b126_27, if_neg (by decide : ¬ (1 : Int32) = 0), if_pos i8]; (try simp only [cm])
  have f4 := Eq.refl (am_G (am_ev 100) 241 [.ref 0, .int (nI p), .int (nI m)] (M, J, tm_R, tm_S, 77, 21637))
  conv at f4 => rhs; rw [f2, e4, am_call_s, am_toL, b241_15, if_neg (by decide : ¬ (1 : Int32) = 0), h.pw hm, am_call_s, am_toL, b241_23]
  by_cases c1 : C 84 m = -1
  rotate_left
  · refine bad (by rw [f3, if_neg c1, crk _ _ _ _ 3 3 rfl (by omega), am_call_s, am_toL, b126_64]) ?_
    rw [f4, if_neg c1, mrk _ _ _ 3 3 rfl (by omega), am_call_s, am_toL, b241_42]
    exact if_pos (by decide)
  have f5 := Eq.refl (am_G (am_ev 100) 126 [.ref 0, .int (nI p), .int (nI m)] (C, Jc, (tc_R x), tc_S, 289, 11479))
  conv at f5 => rhs; rw [f3, if_pos c1, if_pos i4]; (try simp only [cp]); rw [if_pos (tp_k hp4), gp.2.1]
  have f6 := Eq.refl (am_G (am_ev 100) 241 [.ref 0, .int (nI p), .int (nI m)] (M, J, tm_R, tm_S, 77, 21637))
  conv at f6 => rhs; rw [f4, if_pos c1, if_pos i4]; (try simp only [cp])
  by_cases q0 : M 65 p = -1
  rotate_left
  · refine bad (by rw [f5, if_neg q0, crk _ _ _ _ 3 3 rfl (by omega), am_call_s, am_toL, b126_64]) ?_
    rw [f6, if_neg q0, mrk _ _ _ 3 3 rfl (by omega), am_call_s, am_toL, b241_42]
    exact if_pos (by decide)
  refine ⟨1, x, _, _, J, ?_, by rw [f6, if_pos q0, if_pos i4]; rfl, h.mount hp hm c1 q0⟩
  have e22 : ∀ (D : tI) (v : Int32), D 41 3 = C 41 3 → D = mtO C p → am_ev 99 29 22 [.ref 41, .int (nI p), .int (nI m), .int v] [] (D, Jc, (tc_R x), tc_S, 289, 11479) = some (none, (mtC C p m, Jc, (tc_R x), tc_S, 289, 11479)) := by
    intro D v hD hE
    (rw [b29_22, if_pos i4]; (try simp only [cp]); rw [if_pos (tp_k hp4), if_pos i8]; (try simp only [cm]); rw [u2_c (by omega), hD, hE]); rfl
  (rw [f5, if_pos q0, b29_0, if_pos i4]; (try simp only [cp]); rw [if_pos (tp_k hp4)])
  by_cases o : C (270 + p) 0 = -1
  · rw [if_pos o, e22 C _ rfl (by unfold mtO; rw [if_pos o]), am_call_s, am_toN, b126_76]
  · have io : am_in (C (270 + p) 0) 8 := by
      rw [gp.1] at o ⊢
      exact (gp.2.2.2.1.resolve_left o).1.inn (by omega) (by omega)
    rw [if_neg o, if_pos io, e22 _ _ (u2_c (by omega)) (by unfold mtO; rw [if_neg o]), am_call_s, am_toN, b126_76]
/-- needs -/
theorem ndS_0 {M : tI} {b s q : Nat} : ∀ n, (∀ k, k < n → ¬ (M 15 (24 * b + k) = nI s ∧ M 17 (24 * b + k) = nI q)) → ndS M b s q n = 0 := by
  intro n
  induction n with
  | zero => intro _; rfl
  | succ n ih =>
    intro h
    unfold ndS nd1
    rw [ih (fun k hk => h k (by omega)), if_neg (h n (by omega))]; rfl
theorem ndS_1 {M : tI} {b s q j : Nat} : ∀ n, j < n → (M 15 (24 * b + j) = nI s ∧ M 17 (24 * b + j) = nI q) → (∀ k, k < n → k ≠ j → ¬ (M 15 (24 * b + k) = nI s ∧ M 17 (24 * b + k) = nI q)) → ndS M b s q n = M 16 (24 * b + j) := by
  intro n
  induction n with
  | zero => intro h; omega
  | succ n ih =>
    intro hj hm h
    unfold ndS nd1
    by_cases e : j = n
    · subst e
      rw [ndS_0 j (fun k hk => h k (by omega) (by omega)), if_pos hm, Int32.zero_add]
    · rw [ih (by omega) hm (fun k hk => h k (by omega)), if_neg (h n (by omega) (fun w => e w.symm)), Int32.add_zero]
def ndF (M : tI) (b s q n : Nat) : Option Nat := fnd (fun k => decide (M 15 (24 * b + k) = nI s ∧ M 17 (24 * b + k) = nI q)) n 0
theorem m_needOf (d : Nat) (I : tI) (J : tJ) {b s q n : Nat} (hb : b ≤ 1) (hn : I 14 b = nI n) (h24 : n ≤ 24) : am_G (am_ev (d + 1)) 190 [.ref 0, .int (nI b), .int (nI s), .int (nI q)] (I, J, tm_R, tm_S, 77, 21637) = some (some (.int (match ndF I b s q n with
    | some k => nI (24 * b + k)
    | none => -1)), (I, J, tm_R, tm_S, 77, 21637)) := by
  have i2 : am_in (nI b) 2 := nI_in (by omega) (by omega)
  have cb : (nI b).toNatClampNeg = b := nI_clamp (by omega)
  have e24 : (24 : Int32) * nI b = nI (24 * b) := nI_mul 24 b
  have run := fnd_run (fun l => am_ev (d + 1) 190 6 [.ref 0, .int (nI b), .int (nI s), .int (nI q), .int (nI (24 * b + l))] [] (I, J, tm_R, tm_S, 77, 21637)) (fun k => decide (I 15 (24 * b + k) = nI s ∧ I 17 (24 * b + k) = nI q)) (fun l => some (some (.int (nI (24 * b + l))), (I, J, tm_R, tm_S, 77, 21637))) n (by
    intro l hl
    try dsimp only
    have i48 : am_in (nI (24 * b + l)) 48 := nI_in (by omega) (by omega)
    (rw [b190_6, if_pos i2]; (try simp only [cb]); rw [e24, hn, nI_add, if_neg (nI_ge (by omega) (by omega)), if_pos i48]; (try simp (disch := omega) only [nI_clamp]); rw [nI_1])
    by_cases q1 : I 15 (24 * b + l) = nI s
    · rw [if_pos q1, if_pos i48]
      by_cases q2 : I 17 (24 * b + l) = nI q
      · rw [if_pos q2, if_pos (decide_eq_true ⟨q1, q2⟩)]
      · rw [if_neg q2, if_neg (by rw [decide_eq_true_eq]; exact fun w => q2 w.2)]; rfl
    · rw [if_neg q1, if_neg (by rw [decide_eq_true_eq]; exact fun w => q1 w.1)]; rfl) _ 0 (Nat.zero_add _)
  try dsimp only at run
  rw [b190_0, e24]
  refine run.trans ?_
  unfold ndF
  cases fnd (fun k => decide (I 15 (24 * b + k) = nI s ∧ I 17 (24 * b + k) = nI q)) n 0 with
  | some j => rfl
  | none =>
    try dsimp only
    (rw [b190_6, if_pos i2]; (try simp only [cb]); rw [e24, hn, nI_add, if_pos (nI_le (Nat.le_refl _) (by omega))])
/-- the need of a size for a part, as both sides have it -/
theorem Rl.nd (h : Rl x C M J) {s q : Nat} (hs : s < 6) (hq : q < 8) : C (tc_P x + 15 + s) q = match ndF M (xb x) s q (Int32.toNatClampNeg (M 14 (xb x))) with
    | some k => M 16 (24 * xb x + k)
    | none => 0 := by
  obtain ⟨d1, d2, d3⟩ := h.P.2.2.2.2.2.1
  rw [d1 s q hs hq]
  unfold ndF
  cases hf : fnd (fun k => decide (M 15 (24 * xb x + k) = nI s ∧ M 17 (24 * xb x + k) = nI q)) (Int32.toNatClampNeg (M 14 (xb x))) 0 with
  | none =>
    refine ndS_0 _ (fun k hk => ?_)
    have r := fnd_none _ _ hf k (by omega) (by omega)
    rw [decide_eq_false_iff_not] at r; exact r
  | some j =>
    obtain ⟨_, q2, q3, q4⟩ := fnd_some _ _ _ hf
    have q3 := of_decide_eq_true q3
    refine ndS_1 _ (by omega) q3 (fun k hk hkj w => ?_)
    rcases Nat.lt_or_gt_of_ne hkj with z | z
    · have r := q4 k (by omega) z
      rw [decide_eq_false_iff_not] at r; exact r w
    · exact d3 j k z hk ⟨q3.1.trans w.1.symm, q3.2.trans w.2.symm⟩
theorem k_needs (h : Rl x C M J) (a w : Int32) : Lk 116 223 [.int a, .int w] x C M Jc J := by
  have hx := xb1 x
  have b14 := h.n14.2.cl (by omega)
  rcases h.kind (Jc := Jc) (q := 2) (by omega) a 98 97 with ⟨e1, e2⟩ | ⟨s, hs, rfl, hs6, e1, e2⟩
  · exact ⟨-1, x, C, M, J, by rw [b116_0, (show (2 : Int32) = nI 2 from rfl), e1, am_call_s, am_toL, b116_12, if_pos rfl], by rw [b223_0, (show (2 : Int32) = nI 2 from rfl), e2, am_call_s, am_toL, b223_6, if_pos rfl], h⟩
  have f1 := Eq.refl (am_G (am_ev 100) 116 [.ref 0, .int (nI s), .int w] (C, Jc, (tc_R x), tc_S, 289, 11479))
  conv at f1 => rhs; rw [b116_0, (show (2 : Int32) = nI 2 from rfl), e1, am_call_s, am_toL, b116_12, if_neg (by decide : ¬ (1 : Int32) = 0), (show (1 : Int32) = nI 1 from rfl)]
  have f2 := Eq.refl (am_G (am_ev 100) 223 [.ref 0, .int (nI s), .int w] (M, J, tm_R, tm_S, 77, 21637))
  conv at f2 => rhs; rw [b223_0, (show (2 : Int32) = nI 2 from rfl), e2, am_call_s, am_toL, b223_6, if_neg (by decide : ¬ (1 : Int32) = 0), (show (1 : Int32) = nI 1 from rfl)]
  rcases h.kind (Jc := Jc) (q := 1) (by omega) w 98 97 with ⟨e3, e4⟩ | ⟨q, hq, rfl, hq8, e3, e4⟩
  · exact ⟨-1, x, C, M, J, by rw [f1, e3, am_call_s, am_toL, b116_27, if_pos rfl], by rw [f2, e4, am_call_s, am_toL, b223_15, if_pos rfl], h⟩
  have hs6 : s < 6 := hs6
  have hq8 : q < 8 := hq8
  have i6 : am_in (nI s) 6 := nI_in hs6 (by omega)
  have i8 : am_in (nI q) 8 := nI_in hq8 (by omega)
  have cs : (nI s).toNatClampNeg = s := nI_clamp (by omega)
  have cq : (nI q).toNatClampNeg = q := nI_clamp (by omega)
  have hp4 := tc_P4 x
  have f3 : am_G (am_ev 100) 116 [.ref 0, .int (nI s), .int (nI q)] (C, Jc, (tc_R x), tc_S, 289, 11479) = some (some (.int (C (tc_P x + 15 + s) q)), (C, Jc, (tc_R x), tc_S, 289, 11479)) := by
    (rw [f1, e3, am_call_s, am_toL, b116_27, if_neg (by decide : ¬ (1 : Int32) = 0), if_pos i6]; (try simp only [cs]); (try simp only [cq]); rw [ts_nd x s hs6, if_pos ⟨rfl, by omega⟩, if_pos i8])
  have f4 := Eq.refl (am_G (am_ev 100) 223 [.ref 0, .int (nI s), .int (nI q)] (M, J, tm_R, tm_S, 77, 21637))
  conv at f4 => rhs; rw [f2, e4, am_call_s, am_toL, b223_15, if_neg (by decide : ¬ (1 : Int32) = 0), h.B, m_needOf 98 M J hx (h.n14.2.eq (by omega)) b14, am_call_s, am_toL]
  rw [h.nd hs6 hq8] at f3
  cases hf : ndF M (xb x) s q (Int32.toNatClampNeg (M 14 (xb x))) with
  | none =>
    rw [hf] at f3 f4
    exact ⟨0, x, C, M, J, f3, by rw [f4]; exact (b223_30 99 M J _ (some (.inr (nI q))) _ (-1)).trans (if_pos rfl), h⟩
  | some k =>
    rw [hf] at f3 f4
    have hk : k < 24 := by
      have := (fnd_some _ _ _ hf).2.1; omega
    exact ⟨M 16 (24 * xb x + k), x, C, M, J, f3, by rw [f4]; refine (b223_30 99 M J _ (some (.inr (nI q))) _ (nI (24 * xb x + k))).trans ?_; (rw [if_neg (nI_ne (by omega)), if_pos (nI_in (by omega) (by omega))]; (try simp (disch := omega) only [nI_clamp])), h⟩
/-- hours of a change -/
def chg (M : tI) (x : Bool) (a : Int32) (j : Nat) : Int32 := if a = -1 then 0 else M 19 (6 * (6 * xb x + Int32.toNatClampNeg a) + j)
theorem Rl.hbM (h : Rl x C M J) {a : Int32} (ha : a = -1 ∨ ∃ i, i < Int32.toNatClampNeg (M 11 (xb x)) ∧ a = nI i) {j : Nat} (hj : j < Int32.toNatClampNeg (M 11 (xb x))) (d : Nat) : am_G (am_ev (d + 2)) 224 [.ref 0, .int a, .int (nI j)] (M, J, tm_R, tm_S, 77, 21637) = some (some (.int (chg M x a j)), (M, J, tm_R, tm_S, 77, 21637)) := by
  have hx := xb1 x
  have b11 := h.n11.2.cl (by omega)
  unfold chg
  rw [b224_0]
  rcases ha with rfl | ⟨i, hi, rfl⟩
  · rw [if_pos rfl, if_pos rfl]
  · (rw [if_neg (nI_ne (by omega)), if_neg (nI_ne (by omega)), m_size6, am_call_s, am_toL, b224_20, h.ix6, (show (6 : Int32) = nI 6 from rfl), nI_ix, if_pos (nI_in (by omega) (by omega))]; (try simp (disch := omega) only [nI_clamp]))
theorem Rl.hbC (h : Rl x C M J) {a : Int32} (ha : a = -1 ∨ ∃ i, i < Int32.toNatClampNeg (M 11 (xb x)) ∧ a = nI i) {j : Nat} (hj : j < Int32.toNatClampNeg (M 11 (xb x))) (d : Nat) : am_G (am_ev (d + 1)) 61 [.ref (tc_P x), .int a, .int (nI j)] (C, Jc, (tc_R x), tc_S, 289, 11479) = some (some (.int (chg M x a j)), (C, Jc, (tc_R x), tc_S, 289, 11479)) := by
  have hp4 := tc_P4 x
  have b11 := h.n11.2.cl (by omega)
  obtain ⟨_, g2, g3⟩ := h.P.2.2.2.2.2.2.1
  unfold chg
  rw [b61_0]
  rcases ha with rfl | ⟨i, hi, rfl⟩
  · rw [if_pos rfl, if_pos rfl]
  · (rw [if_neg (nI_ne (by omega)), if_neg (nI_ne (by omega))]; (try simp (disch := omega) only [nI_clamp]))
    by_cases e : nI i = nI j
    · rw [if_pos e]
      have e2 : i = j := (nI_eq (by omega) (by omega)).mp e
      rw [(g3 i j hi hj).2 e2]
    · have ne : i ≠ j := fun w => e (by rw [w])
      (rw [if_neg e, if_pos (nI_in (by omega) (by omega)), ts_ch x i (by omega), if_pos ⟨rfl, by omega⟩, if_pos (nI_in (by omega) (by omega))]; (try simp (disch := omega) only [nI_clamp]); rw [g2 i j hi hj ne])
theorem k_change (h : Rl x C M J) (a w : Int32) : Lk 117 225 [.int a, .int w] x C M Jc J := by
  rcases h.kind (Jc := Jc) (q := 2) (by omega) a 98 97 with ⟨e1, e2⟩ | ⟨s, hs, rfl, hs6, e1, e2⟩
  · exact ⟨-1, x, C, M, J, by rw [b117_0, (show (2 : Int32) = nI 2 from rfl), e1, am_call_s, am_toL, b117_12, if_pos rfl], by rw [b225_0, (show (2 : Int32) = nI 2 from rfl), e2, am_call_s, am_toL, b225_6, if_pos rfl], h⟩
  rcases h.kind (Jc := Jc) (q := 2) (by omega) w 98 97 with ⟨e3, e4⟩ | ⟨q, hq, rfl, hq8, e3, e4⟩
  · exact ⟨-1, x, C, M, J, by rw [b117_0, (show (2 : Int32) = nI 2 from rfl), e1, am_call_s, am_toL, b117_12, if_neg (by decide : ¬ (1 : Int32) = 0), (show (2 : Int32) = nI 2 from rfl), e3, am_call_s, am_toL, b117_27, if_pos rfl], by rw [b225_0, (show (2 : Int32) = nI 2 from rfl), e2, am_call_s, am_toL, b225_6, if_neg (by decide : ¬ (1 : Int32) = 0), (show (2 : Int32) = nI 2 from rfl), e4, am_call_s, am_toL, b225_15, if_pos rfl], h⟩
  exact ⟨chg M x (nI s) q, x, C, M, J, by rw [b117_0, (show (2 : Int32) = nI 2 from rfl), e1, am_call_s, am_toL, b117_12, if_neg (by decide : ¬ (1 : Int32) = 0), (show (2 : Int32) = nI 2 from rfl), e3, am_call_s, am_toL, b117_27, if_neg (by decide : ¬ (1 : Int32) = 0), h.hbC (Or.inr ⟨s, hs, rfl⟩) hq, am_call_s, am_toL, b117_44], by rw [b225_0, (show (2 : Int32) = nI 2 from rfl), e2, am_call_s, am_toL, b225_6, if_neg (by decide : ¬ (1 : Int32) = 0), (show (2 : Int32) = nI 2 from rfl), e4, am_call_s, am_toL, b225_15, if_neg (by decide : ¬ (1 : Int32) = 0), h.hbM (Or.inr ⟨s, hs, rfl⟩) hq, am_call_s, am_toL, b225_24], h⟩
end API6
