/-! goOn: the loop -/
section GO2
variable {x : Bool} {C M : tI} {J Jc : tJ}
theorem Rl.goL (h0 : Rl x C M J) {n g np : Nat} (hn : n ≤ 200) (hg : g ≤ 10199) (enp : M 20 (xb x) = nI np) (h4 : np ≤ 4) : ∀ (f : Nat) (C M : tI) (built : Int32) (hh turn : Nat) (v1 v5 w5 : Value), Rl x C M J → M 20 (xb x) = nI np → M 0 65 = nI hh → hh ≤ 9999 → g - hh ≤ f → turn + (g - hh) ≤ n → ∃ (r : Int32) (C' M' : tI), am_ev 99 35 12 [.ref 41, .int (nI n), .int (nI g), .int built, .int (nI turn), v5] [] (C, Jc, (tc_R x), tc_S, 289, 11479) = some (some (.int r), (C', Jc, (tc_R x), tc_S, 289, 11479)) ∧ am_ev 100 251 29 [.ref 0, v1, .int (nI g), .int built, .int (if hh < g then 1 else 0), w5] [] (M, J, tm_R, tm_S, 77, 21637) = some (some (.int r), (M', J, tm_R, tm_S, 77, 21637)) ∧ Rl x C' M' J := by
  intro f
  induction f with
  | zero =>
    intro C M built hh turn v1 v5 w5 h e20 eh hh9 hf ht
    refine ⟨built, C, M, ?_, ?_, h⟩
    · rw [b35_12]
      by_cases q : nI n ≤ nI turn
      · rw [if_pos q]
      · rw [if_neg q, h.hour, eh, if_pos (nI_le (by omega) (by omega))]
    · rw [if_neg (by omega), b251_29, if_pos rfl]
  | succ f ih =>
    intro C M built hh turn v1 v5 w5 h e20 eh hh9 hf ht
    by_cases lt : hh < g
    rotate_left
    · exact ih C M built hh turn v1 v5 w5 h e20 eh hh9 (by omega) ht
    have rp := fun p hp => h.cp p hp
    have g20 : ∀ p, (cpX C M x p).2 20 (xb x) = nI np := fun p => by rw [cpX_f (by omega)]; exact e20
    have g65 : ∀ p, (cpX C M x p).2 0 65 = nI hh := fun p => by rw [cpX_f (by omega)]; exact eh
    -- the presses
    have pc : ∀ p, p ≤ np → am_ev 99 35 29 [.ref 41, .int (nI n), .int (nI g), .int built, .int (nI turn), .int (nI 0)] [] (C, Jc, (tc_R x), tc_S, 289, 11479) = am_ev 99 35 29 [.ref 41, .int (nI n), .int (nI g), .int built, .int (nI turn), .int (nI p)] [] ((cpX C M x p).1, Jc, (tc_R x), tc_S, 289, 11479) := by
      intro p
      induction p with
      | zero => intro _; rfl
      | succ p ihp =>
        intro hp
        have r := rp p (by omega)
        rw [ihp (by omega), b35_29, if_pos i39, c39, r.n20.1, g20 p, if_neg (nI_ge (by omega) (by omega)), r.scC (by omega), am_call_s, am_toL, b35_49, nI_1]
        rfl
    have pm : ∀ p, p ≤ np → am_ev 100 251 37 [.ref 0, v1, .int (nI g), .int built, .int 1, .int (nI 0)] [] (M, J, tm_R, tm_S, 77, 21637) = am_ev 100 251 37 [.ref 0, v1, .int (nI g), .int built, .int 1, .int (nI p)] [] ((cpX C M x p).2, J, tm_R, tm_S, 77, 21637) := by
      intro p
      induction p with
      | zero => intro _; rfl
      | succ p ihp =>
        intro hp
        have r := rp p (by omega)
        rw [ihp (by omega), b251_37, if_pos r.inB]
        simp only [r.cB]
        rw [g20 p, if_neg (nI_ge (by omega) (by omega)), r.cgM (by omega), am_call_s, am_toL, b251_57, nI_1]
        rfl
    have r := rp np h4
    have f1 : am_ev 99 35 12 [.ref 41, .int (nI n), .int (nI g), .int built, .int (nI turn), v5] [] (C, Jc, (tc_R x), tc_S, 289, 11479) = am_ev 99 35 60 [.ref 41, .int (nI n), .int (nI g), .int built, .int (nI turn), .int (nI np)] [.int (nzV (cpX C M x np).2 x)] ((cpX C M x np).1, Jc, (tc_R x), tc_S, 289, 11479) := by
      rw [b35_12, if_neg (nI_ge (by omega) (by omega)), h.hour, eh, if_neg (nI_ge lt (by omega))]
      refine (pc np (Nat.le_refl _)).trans ?_
      rw [b35_29, if_pos i39, c39, r.n20.1, g20 np, if_pos (Int32.le_refl _), r.nzC, am_call_s, am_toL]
    have f2 : am_ev 100 251 29 [.ref 0, v1, .int (nI g), .int built, .int (if hh < g then 1 else 0), w5] [] (M, J, tm_R, tm_S, 77, 21637) = am_ev 100 251 68 [.ref 0, v1, .int (nI g), .int built, .int 1, .int (nI np)] [.int (nzV (cpX C M x np).2 x)] ((cpX C M x np).2, J, tm_R, tm_S, 77, 21637) := by
      rw [if_pos lt, b251_29, if_neg (by decide : ¬ (1 : Int32) = 0)]
      refine (pm np (Nat.le_refl _)).trans ?_
      rw [b251_37, if_pos r.inB]
      simp only [r.cB]
      rw [g20 np, if_pos (Int32.le_refl _), r.nzM, am_call_s, am_toL]
    have back : ∀ (t : Nat) (b : Int32) (w : Value) (N : tI), N 0 65 = nI t → t < 2 ^ 31 → am_ev 100 251 110 [.ref 0, v1, .int (nI g), .int b, .int 1, w] [] (N, J, tm_R, tm_S, 77, 21637) = am_ev 100 251 29 [.ref 0, v1, .int (nI g), .int b, .int (if t < g then 1 else 0), w] [] (N, J, tm_R, tm_S, 77, 21637) := by
      intro t b w N eN ht
      rw [b251_110, if_neg (by decide : ¬ (1 : Int32) = 0), eN]
      by_cases q : t < g
      · rw [if_neg (nI_ge q (by omega)), if_pos q]
      · rw [if_pos (nI_le (by omega) ht), if_neg q]
    rw [f1, f2, b35_60, b251_68]
    rcases r.nzP' with w | ⟨s, hs, hs6, w, cb⟩
    · rw [w, if_pos rfl, if_pos rfl, r.hour, g65 np]
      by_cases q : hh = 9999
      · subst q
        refine ⟨built, _, _, ?_, ?_, r⟩
        · rw [if_pos (show (9999 : Int32) ≤ nI 9999 from Int32.le_refl _)]
        · rw [if_pos (show (9999 : Int32) ≤ nI 9999 from Int32.le_refl _), b251_110, if_pos rfl, b251_29, if_pos rfl]
      · have n9 : ¬ (9999 : Int32) ≤ nI hh := nI_ge (b := 9999) (by omega) (by omega)
        have rr := r.hr (g65 np) (by omega) (g20 np) h4
        have mh := m_hour 98 (cpX C M x np).2 J r.B (xb1 x) (g20 np) h4 (g65 np) (r.tyB h4).2
        rw [if_neg n9, if_neg n9, nI_1, c_pass 97 (cpX C M x np).1 Jc x (r.n20.1.trans (g20 np)) h4 (r.tyB h4).1, am_call_s, am_toL, b35_101, mh, am_call_s, am_toL, b251_103, nI_1, back (hh + 1) _ _ _ hgM_h (by omega)]
        exact ih _ _ built (hh + 1) (turn + 1) v1 _ _ rr (by rw [hgM_f (by omega) (by omega) (by omega) (by omega)]; exact g20 np) hgM_h (by omega) (by omega) (by omega)
    · rw [w, if_neg (nI_ne (by omega)), if_neg (nI_ne (by omega))]
      obtain ⟨m, t, C', M', m1, m2, rr, _, e65, lt2, t9, k20⟩ := r.mk (Jc := Jc) hs cb 95 96
      (rw [g65 np] at lt2; (try simp (disch := omega) only [nI_clamp] at lt2))
      rw [m1, am_call_s, am_toL, b35_74, m2, am_call_s, am_toL, b251_82, nI_1, back t _ _ _ e65 (by omega)]
      have e20' : M' 20 (xb x) = nI np := k20.trans (g20 np)
      exact ih _ _ (built + 1) t (turn + 1) v1 _ _ rr e20' e65 (by omega) (by omega) (by omega)
theorem k_goOn (h : Rl x C M J) (a : Int32) : Lk 131 251 [.int a] x C M Jc J := by
  have bad := fun e1 e2 => (⟨-1, x, _, _, J, e1, e2, h.ref 4 (by omega)⟩ : Lk 131 251 [.int a] x C M Jc J)
  obtain ⟨t, ht, et⟩ := h.hourB
  obtain ⟨np, h4, hn⟩ := h.n20.2
  by_cases hw : 1 ≤ a ∧ a ≤ 200
  rotate_left
  · refine bad ?_ (by rw [b251_0, m_is0 _ _ _ hw, am_call_s, am_toL, b251_8, if_pos rfl, mrk _ _ _ 4 4 rfl (by omega), am_call_s, am_toL, b251_16])
    rw [b131_0]
    by_cases w1 : a < 1
    · rw [if_pos w1, crk _ _ _ _ 4 4 rfl (by omega), am_call_s, am_toL, b131_17]
    · rw [if_neg w1, if_neg (fun q => hw ⟨Int32.not_lt.mp w1, q⟩), crk _ _ _ _ 4 4 rfl (by omega), am_call_s, am_toL, b131_17]
  have w1 : ¬ a < 1 := Int32.not_lt.mpr hw.1
  obtain ⟨m, hm, em, hm1⟩ : ∃ p, p ≤ 200 ∧ a = nI p ∧ 1 ≤ p := by
    obtain ⟨p, hp, ep⟩ := nI_of (x := a) (by rw [i_lt] at w1 ⊢; have : (0 : Int32).toInt = 0 := rfl; have : (1 : Int32).toInt = 1 := rfl; omega)
    have q := hw.2
    have q1 := hw.1
    rw [ep, (show (200 : Int32) = nI 200 from rfl), nI_leI hp (by omega)] at q
    rw [ep, (show (1 : Int32) = nI 1 from rfl), nI_leI (by omega) hp] at q1
    exact ⟨p, q, ep, q1⟩
  subst em
  obtain ⟨r, C', M', e1, e2, rr⟩ := h.goL (Jc := Jc) (n := m) (g := t + m) hm (by omega) hn h4 m C M 0 t 0 (.int (nI m)) am_un am_un h hn et ht (by omega) (by omega)
  refine ⟨r, x, C', M', J, ?_, ?_, rr⟩
  · rw [b131_0, if_neg w1, if_pos hw.2, b35_0, h.hour, et, nI_add]
    refine Eq.trans (congrArg (fun z => am_call z _) e1) ?_
    rw [am_call_s, am_toL, b131_26]
  · rw [b251_0, m_is1 _ _ _ hw, am_call_s, am_toL, b251_8, if_neg (by decide : ¬ (1 : Int32) = 0), et, nI_add]
    rw [if_pos (show t < t + m by omega)] at e2
    exact e2
end GO2
