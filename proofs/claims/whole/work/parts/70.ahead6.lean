/-! the look ahead on both sides; starves -/
section FO
variable {x : Bool} {C M : tI} {J Jc : tJ}
theorem Rl.fsee (h : Rl x C M J) (d e : Nat) : ∃ (C' M' : tI), am_G (am_ev (d + 3)) 1 [.ref 274, .ref 41] (C, Jc, (tc_R x), tc_S, 289, 11479) = some (none, (C', Jc, (tc_R x), tc_S, 289, 11479)) ∧ am_G (am_ev (e + 4)) 268 [.ref 0] (M, J, tm_R, tm_S, 77, 21637) = some (none, (M', J, tm_R, tm_S, 77, 21637)) ∧ Rl x C' M' J ∧ (∀ p, p < 4 → C' 275 p = M' 74 p) ∧ (∀ t, t < Int32.toNatClampNeg (M' 0 74) → (M' 75 t = C' 279 t ∧ (C' 279 t = -1 ∨ bd (C' 279 t) 9999)) ∨ (M' 75 t = -1 ∧ bd (C' 279 t) 10098 ∧ 9999 < Int32.toNatClampNeg (C' 279 t))) ∧ ∀ a b, 1 ≤ a ∧ a ≤ 38 → M' a b = M a b := by
  have hx := tc_P4 x
  have n74 := h.n74
  have et := h.ntB.eq (by omega)
  obtain ⟨hh, hh9, ehh⟩ := h.hourB
  obtain ⟨np1, np2⟩ := h.Pc.2.2.2.1
  have np4 := np2.cl (by omega)
  have enp := np2.eq (by omega)
  generalize hN : Int32.toNatClampNeg (M 0 74) = nt at *
  generalize hP : Int32.toNatClampNeg (M 20 (xb x)) = np at *
  have hpp := h.H.2.2.2.2.1
  have htt := h.H.2.2.2.1
  rw [← hN] at et
  -- the model keeps
  obtain ⟨K, k1, k2, k3, k4, k5, k6⟩ := m_keeps (e + 2) M J (nt := nt) (by rw [et, hN]) (by omega)
  have run : ∀ k, k ≤ 4 → ∃ D, am_ev (e + 4) 268 6 [.ref 0, .int (nI 0), am_un] [] (K, J, tm_R, tm_S, 77, 21637) = am_ev (e + 4) 268 6 [.ref 0, .int (nI k), am_un] [] (D, J, tm_R, tm_S, 77, 21637) ∧ (∀ a b, a ≠ 74 → D a b = K a b) ∧ ∀ p, p < k → D 74 p = -1 := by
    intro k
    induction k with
    | zero => intro _; exact ⟨_, rfl, fun _ _ _ => rfl, fun p hp => by omega⟩
    | succ k ih =>
      intro hk
      obtain ⟨D, a1, a2, a3⟩ := ih (by omega)
      have ck : (nI k).toNatClampNeg = k := nI_clamp (by omega)
      have st := b268_6 (e + 3) D J (nI k) am_un
      rw [if_neg (show ¬ (4 : Int32) ≤ nI k from nI_ge (b := 4) (by omega) (by omega)), if_pos (nI_in (by omega) (by omega)), nI_1] at st
      simp only [ck] at st
      refine ⟨_, a1.trans st, fun a b q => by rw [u2_c q]; exact a2 a b q, fun p hp => ?_⟩
      by_cases z : p = k
      · subst z; rw [u2_s]
      · rw [u2_p z]; exact a3 p (by omega)
  obtain ⟨M0, r1, r2, r3⟩ := run 4 (Nat.le_refl _)
  have m0 : ∀ a b, a ≠ 71 → a ≠ 72 → a ≠ 73 → a ≠ 74 → ¬ (a = 0 ∧ b = 98) → M0 a b = M a b := fun a b q1 q2 q3 q4 q5 => by rw [r2 a b q4, k2 a b q1 q2 q3 q5]
  have h0 : Rl x C M0 J := h.scr (fun _ _ _ => rfl) (fun a b q => m0 a b (by omega) (by omega) (by omega) (by omega) (by omega)) (fun _ _ _ => rfl)
  have sm0 : ∀ a, a ≠ 0 → a ≠ 71 → a ≠ 72 → a ≠ 73 → a ≠ 74 → ∀ b, M0 a b = M a b := fun a q1 q2 q3 q4 q5 b => m0 a b q2 q3 q4 q5 (by omega)
  -- the class copies
  have e10 : C 41 10 = nI nt := by rw [h.nt, et, hN]
  obtain ⟨C1, c1, c2, c3, c4, c5⟩ := c_copy d C Jc x e10 (by omega) (fun t ht => by
    have g := htt t (by omega)
    rw [g.1]; exact g.2.2.2.2.2.2.2.1)
  have en : nt = Int32.toNatClampNeg (M0 0 74) := by rw [m0 0 74 (by omega) (by omega) (by omega) (by omega) (by omega), hN]
  have cu : ∀ t, t < nt → M 55 t = 1 ∨ M 55 t = 2 → cuA C x t = C (150 + 2 * t) 6 + M 13 (6 * xb x + Int32.toNatClampNeg (M 54 t)) := by
    intro t ht q
    have g := htt t (by omega)
    have gs := h.P.2.2.2.2.1 (Int32.toNatClampNeg (M 54 t)) g.2.2.2.2.2.2.2.2.1
    unfold cuA
    rw [g.2.1, if_pos q, g.1, gs.1]
  have f0 : FS nt C1 M0 hh := by
    refine ⟨fun p hp => by rw [(c3 p hp).1, r3 p hp], fun p hp => ?_, fun m hm => ?_, fun t ht => ?_⟩
    · rw [(c3 p hp).2, sm0 65 (by omega) (by omega) (by omega) (by omega) (by omega), sm0 66 (by omega) (by omega) (by omega) (by omega) (by omega)]
      have g := hpp.1 p hp
      unfold frA
      rw [g.2.1]
      by_cases q : M 65 p = -1
      · (rw [if_pos q, h.hour, ehh]; (try simp (disch := omega) only [nI_clamp]))
        exact ⟨bd_nI (by omega), fun _ => Nat.le_refl _, fun w => absurd q w⟩
      · rw [if_neg q]
        have w := g.2.2.2.2.resolve_left q
        have tn : Int32.toNatClampNeg (M 65 p) < nt := by have := w.2.1; omega
        rw [w.2.2.2.2.1]
        refine ⟨w.2.2.2.2.2.1, fun z => absurd z q, fun _ => ⟨rfl, ?_⟩⟩
        rw [(c5 _ tn).2, cu _ tn (Or.inl w.2.2.1), w.2.2.2.2.2.2.2]
    · rw [c4 m hm, sm0 67 (by omega) (by omega) (by omega) (by omega) (by omega)]; exact (h.H.2.2.2.2.2.1 m hm).1
    · have g := htt t (by omega)
      rw [(c5 t ht).1, (c5 t ht).2, sm0 55 (by omega) (by omega) (by omega) (by omega) (by omega), sm0 62 (by omega) (by omega) (by omega) (by omega) (by omega), g.2.1]
      refine ⟨Iff.rfl, fun q => ?_, fun q => ?_⟩
      · unfold cuA
        rw [g.2.1, if_neg]
        rintro (w | w) <;> rcases q with q | q <;> rw [q] at w <;> exact absurd w (by decide)
      · rw [cu t ht (Or.inr q)]
        rcases g.2.2.2.2.2.2.2.2.2.2.2.2.2.2.2 with z | z
        · rcases z.2.2.2 with y | y <;> rw [q] at y <;> exact absurd y (by decide)
        · exact ((z.2.2.2.2.2.2.2.1 (Or.inl q)).1).symm
  have wb : nsm (wt C1 x hh) nt ≤ 120 := Nat.le_trans (nsm_b (c := 2) nt (fun t ht => wt_2 f0 ht)) (by omega)
  have eh0 : M0 0 65 = nI hh := by rw [m0 0 65 (by omega) (by omega) (by omega) (by omega) (by omega)]; exact ehh
  have hn0 : M0 20 (xb x) = nI np := by rw [sm0 20 (by omega) (by omega) (by omega) (by omega) (by omega), enp]
  obtain ⟨C2, M2, V2, s1, s2, s3, s4, s5, s6, s7⟩ := FS.fore (C0 := C) (M0 := M0) (Jc := Jc) h0 en hn0 (by omega) d e (9999 - hh) hh 0 hh C1 M0 C am_un (by omega) c2 (fun _ _ _ _ _ _ => rfl) h0 eh0 f0 (Or.inl ⟨rfl, by omega⟩)
  have e2 : M2 0 74 = nI nt := by rw [s4 0 74 (by omega) (by omega) (by omega) (by omega), m0 0 74 (by omega) (by omega) (by omega) (by omega) (by omega), et, hN]
  have c74 : Int32.toNatClampNeg (M2 0 74) = nt := by rw [e2]; exact nI_clamp (by omega)
  -- when each tyre is cured
  have fin : ∀ k, k ≤ nt → ∃ D, am_ev (e + 4) 268 120 [.ref 0, .int 0, .int (nI 0)] [] (M2, J, tm_R, tm_S, 77, 21637) = am_ev (e + 4) 268 120 [.ref 0, .int 0, .int (nI k)] [] (D, J, tm_R, tm_S, 77, 21637) ∧ (∀ a b, a ≠ 75 → D a b = M2 a b) ∧ ∀ t, t < k → D 75 t = if M2 55 t = 2 then M2 62 t else -1 := by
    intro k
    induction k with
    | zero => intro _; exact ⟨_, rfl, fun _ _ _ => rfl, fun p hp => by omega⟩
    | succ k ih =>
      intro hk
      obtain ⟨D, a1, a2, a3⟩ := ih (by omega)
      have i60 : am_in (nI k) 60 := nI_in (by omega) (by omega)
      have ck : (nI k).toNatClampNeg = k := nI_clamp (by omega)
      have st := b268_120 (e + 3) D J (some (.inr 0)) (nI k)
      rw [a2 0 74 (by omega), e2, if_neg (nI_ge (by omega) (by omega)), if_pos i60] at st
      simp only [ck, nI_1] at st
      rw [a2 55 k (by omega), a2 62 k (by omega), if_pos i60] at st
      have fu : ∀ v, v = (if M2 55 k = 2 then M2 62 k else -1) → (∀ a b, a ≠ 75 → am_u2 D 75 k v a b = M2 a b) ∧ ∀ t, t < k + 1 → am_u2 D 75 k v 75 t = if M2 55 t = 2 then M2 62 t else -1 := by
        intro v hv
        refine ⟨fun a b q => by rw [u2_c q]; exact a2 a b q, fun p hp => ?_⟩
        by_cases z : p = k
        · subst z; rw [u2_s]; exact hv
        · rw [u2_p z]; exact a3 p (by omega)
      by_cases q : M2 55 k = 2
      · rw [if_pos q, if_pos i60] at st
        exact ⟨_, a1.trans st, fu _ (by rw [if_pos q])⟩
      · rw [if_neg q, if_pos i60] at st
        exact ⟨_, a1.trans st, fu _ (by rw [if_neg q])⟩
  obtain ⟨D, d1, d2, d3⟩ := fin nt (Nat.le_refl _)
  obtain ⟨B, b1, b2, b3, b4, b5, b6⟩ := m_back (e + 2) D J (nt := nt) (by rw [d2 0 74 (by omega)]; exact e2) (by omega)
  have D7 : ∀ a b, a = 71 ∨ a = 72 ∨ a = 73 ∨ (a = 0 ∧ b = 98) → D a b = K a b := fun a b q => by
    rw [d2 a b (by omega), s4 a b (by omega) (by omega) (by omega) (by omega), r2 a b (by omega)]
  have all : ∀ a b, a ≠ 71 → a ≠ 72 → a ≠ 73 → a ≠ 74 → a ≠ 75 → ¬ (a = 0 ∧ b = 98) → B a b = M a b := by
    intro a b q1 q2 q3 q4 q5 q6
    by_cases z0 : a = 0 ∧ b = 65
    · obtain ⟨rfl, rfl⟩ := z0
      rw [b3, D7 _ _ (by omega), k3]
    by_cases z1 : (a = 55 ∨ a = 59 ∨ a = 60 ∨ a = 61 ∨ a = 62) ∧ b < nt
    · obtain ⟨z, hb⟩ := z1
      have y := b4 b hb
      have w := k4 b hb
      rw [D7 71 (6 * b) (by omega), D7 71 (6 * b + 1) (by omega), D7 71 (6 * b + 2) (by omega), D7 71 (6 * b + 3) (by omega), D7 71 (6 * b + 4) (by omega)] at y
      rcases z with rfl | rfl | rfl | rfl | rfl
      · rw [y.1, w.1]
      · rw [y.2.1, w.2.1]
      · rw [y.2.2.1, w.2.2.1]
      · rw [y.2.2.2.1, w.2.2.2.1]
      · rw [y.2.2.2.2, w.2.2.2.2]
    by_cases z2 : (a = 65 ∨ a = 66) ∧ b < 4
    · obtain ⟨z, hb⟩ := z2
      have y := b5 b hb
      have w := k5 b hb
      rw [D7 72 (2 * b) (by omega), D7 72 (2 * b + 1) (by omega)] at y
      rcases z with rfl | rfl
      · rw [y.1, w.1]
      · rw [y.2, w.2]
    by_cases z3 : a = 67 ∧ b < 8
    · obtain ⟨rfl, hb⟩ := z3
      rw [b6 b hb, D7 _ _ (by omega), k6 b hb]
    rw [b2 a b z0 (by omega) (by omega) (by omega), d2 a b q5, s4 a b z0 (by omega) (by omega) (by omega), m0 a b q1 q2 q3 q4 q6]
  have cB : Int32.toNatClampNeg (B 0 74) = nt := by rw [all 0 74 (by omega) (by omega) (by omega) (by omega) (by omega) (by omega), hN]
  refine ⟨C2, B, ?_, ?_, h.scr (fun a b q => s3 a b (by omega)) (fun a b q => all a b (by omega) (by omega) (by omega) (by omega) (by omega) (by omega)) (fun _ _ _ => rfl), fun p hp => ?_, fun t ht => ?_, fun a b q => all a b (by omega) (by omega) (by omega) (by omega) (by omega) (by omega)⟩
  · rw [b1_0, c1, am_call_s, am_toN, b1_5, c2 41 1 (by omega), h.hour, ehh]
    exact s1
  · rw [b268_0, k1, am_call_s, am_toN, b268_4]
    refine Eq.trans r1 ?_
    rw [b268_6, if_pos (show (4 : Int32) ≤ nI 4 from Int32.le_refl _)]
    refine Eq.trans s2 (Eq.trans d1 ?_)
    refine (b268_120 (e + 3) D J (some (.inr 0)) (nI nt)).trans ?_
    rw [d2 0 74 (by omega), e2, if_pos (Int32.le_refl _), b1, am_call_s, am_toN]
    exact b268_164 (e + 3) B J (.int 0) (.int (nI nt))
  · rw [b2 74 p (by omega) (by omega) (by omega) (by omega), d2 74 p (by omega)]; exact s7.1 p hp
  · rw [cB] at ht
    have e75 : B 75 t = if M2 55 t = 2 then M2 62 t else -1 := by rw [b2 75 t (by omega) (by omega) (by omega) (by omega)]; exact d3 t ht
    have g := s5.H.2.2.2.1 t (by omega)
    obtain ⟨g1, g2, g3⟩ := s7.2.2.2 t ht
    rw [e75]
    obtain ⟨s, hs, es⟩ := g.2.2.2.2.2.2.2.2.2.1
    have s4' : s = 0 ∨ s = 1 ∨ s = 2 ∨ s = 3 := by omega
    rcases s4' with rfl | rfl | rfl | rfl
    · have es : M2 55 t = 0 := es
      rw [if_neg (by rw [es]; decide), g2 (Or.inl es)]
      exact Or.inl ⟨rfl, Or.inl rfl⟩
    · have es : M2 55 t = 1 := es
      obtain ⟨p, hp, ep⟩ := s5.H.2.2.2.2.1.2.2 t (by omega) es
      have q : M2 65 p ≠ -1 := by rw [ep]; exact nI_ne (by omega)
      have w := (s5.H.2.2.2.2.1.1 p hp).2.2.2.2.resolve_left q
      have f := (s7.2.1 p hp).2.2 q
      have f2 := f.2
      (rw [ep] at f2; (try simp (disch := omega) only [nI_clamp] at f2))
      rw [if_neg (by rw [es]; decide), f2]
      refine Or.inr ⟨rfl, w.2.2.2.2.2.1, ?_⟩
      have l := w.2.2.2.2.2.2.1
      (rw [s6] at l; (try simp (disch := omega) only [nI_clamp] at l))
      exact l
    · have es : M2 55 t = 2 := es
      rw [if_pos es, g3 es]
      refine Or.inl ⟨rfl, ?_⟩
      rcases g.2.2.2.2.2.2.2.2.2.2.2.2.2.2.2 with z | z
      · rcases z.2.2.2 with y | y <;> rw [es] at y <;> exact absurd y (by decide)
      · exact Or.inr (z.2.2.2.2.2.2.2.1 (Or.inl es)).2.1
    · have es : M2 55 t = 3 := es
      rw [if_neg (by rw [es]; decide), g2 (Or.inr es)]
      exact Or.inl ⟨rfl, Or.inl rfl⟩
theorem k_starves (h : Rl x C M J) (a : Int32) : Lk 142 269 [.int a] x C M Jc J := by
  rcases h.kind (Jc := Jc) (q := 3) (by omega) a 98 97 with ⟨e1, e2⟩ | ⟨p, hp, rfl, hp4, e1, e2⟩
  · exact ⟨-1, x, C, M, J, by rw [b142_0, (show (3 : Int32) = nI 3 from rfl), e1, am_call_s, am_toL, b142_12, if_pos rfl], by rw [b269_0, (show (3 : Int32) = nI 3 from rfl), e2, am_call_s, am_toL, b269_6, if_pos rfl], h⟩
  · have hp4 : p < 4 := hp4
    obtain ⟨C', M', f1, f2, f3, f4, _, _⟩ := h.fsee (Jc := Jc) 96 95
    have i4 : am_in (nI p) 4 := nI_in hp4 (by omega)
    have cp : (nI p).toNatClampNeg = p := nI_clamp (by omega)
    refine ⟨M' 74 p, x, C', M', J, ?_, ?_, f3⟩
    · rw [b142_0, (show (3 : Int32) = nI 3 from rfl), e1, am_call_s, am_toL, b142_12, if_neg (by decide : ¬ (1 : Int32) = 0), f1, am_call_s, am_toN, b142_28, if_pos i4]
      simp only [cp, f4 p hp4]
    · rw [b269_0, (show (3 : Int32) = nI 3 from rfl), e2, am_call_s, am_toL, b269_6, if_neg (by decide : ¬ (1 : Int32) = 0), f2, am_call_s, am_toN, b269_15, if_pos i4]
      simp only [cp]
end FO
