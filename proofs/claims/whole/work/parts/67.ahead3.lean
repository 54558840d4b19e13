/-! the hours ahead: a pass over the presses, the next hour, the whole look -/
section AH3
variable {x : Bool} {C C0 M M0 V : tI} {J Jc : tJ} {nt h : Nat}
theorem FS.pass (h0 : Rl x C0 M0 J) (en : nt = Int32.toNatClampNeg (M0 0 74)) {np : Nat} (hn : M0 20 (xb x) = nI np) (h4 : np ≤ 4) (hl : h ≤ 9999) (d e : Nat) : ∀ (n p : Nat) (C M V : tI) (v4 v5 : Value), p + n = np → StC C0 C → StM nt M0 M → Rl x V M J → M 0 65 = nI h → FS nt C M h → Qt x M p → ∃ (C' M' V' : tI), am_ev (d + 2) 3 2 [.ref 274, .ref 41, .int (nI h), .int (nI p), v4, v5] [] (C, Jc, (tc_R x), tc_S, 289, 11479) = some (none, (C', Jc, (tc_R x), tc_S, 289, 11479)) ∧ am_ev (e + 4) 268 32 [.ref 0, .int 1, .int (nI p)] [] (M, J, tm_R, tm_S, 77, 21637) = am_ev (e + 4) 268 32 [.ref 0, .int 1, .int (nI np)] [] (M', J, tm_R, tm_S, 77, 21637) ∧ StC C0 C' ∧ StM nt M0 M' ∧ Rl x V' M' J ∧ M' 0 65 = nI h ∧ FS nt C' M' h ∧ Qt x M' np ∧ ∀ t, t < nt → wt C' x h t ≤ wt C x h t := by
  have hx := tc_P4 x
  intro n
  induction n with
  | zero =>
    intro p C M V v4 v5 hp sC sM r eh f qt
    have hp : p = np := by omega
    subst hp
    have e3 : C (tc_P x + 1) 3 = nI p := by rw [sC _ _ (by omega), h0.Pc.2.2.2.1.1]; exact hn
    exact ⟨C, M, V, by rw [b3_2, if_pos i39, c39, e3, if_pos (Int32.le_refl _)], rfl, sC, sM, r, eh, f, qt, fun t _ => Nat.le_refl _⟩
  | succ n ih =>
    intro p C M V v4 v5 hp sC sM r eh f qt
    obtain ⟨C1, M1, V1, w4, w5, a1, a2, a3, a4, a5, a6, a7, a8, a9⟩ := f.step (Jc := Jc) h0 en hn h4 sC sM r eh hl (p := p) (by omega) qt d e v4 v5
    obtain ⟨C2, M2, V2, b1, b2, b3, b4, b5, b6, b7, b8, b9⟩ := ih (p + 1) C1 M1 V1 w4 w5 (by omega) a3 a4 a5 a6 a7 a8
    exact ⟨C2, M2, V2, a1.trans b1, a2.trans b2, b3, b4, b5, b6, b7, b8, fun t ht => Nat.le_trans (b9 t ht) (a9 t ht)⟩
/-- a quiet hour of the model -/
theorem Qt.pass (r : Rl x V M J) {np : Nat} (hn : M 20 (xb x) = nI np) (h4 : np ≤ 4) (q : Qt x M np) (e : Nat) : ∀ n p, p + n = np → am_ev (e + 4) 268 32 [.ref 0, .int 1, .int (nI p)] [] (M, J, tm_R, tm_S, 77, 21637) = am_ev (e + 4) 268 32 [.ref 0, .int 1, .int (nI np)] [] (M, J, tm_R, tm_S, 77, 21637) := by
  intro n
  induction n with
  | zero => intro p hp; obtain rfl : p = np := by omega
            rfl
  | succ n ih =>
    intro p hp
    have i4 : am_in (nI p) 4 := nI_in (by omega) (by omega)
    have cp : (nI p).toNatClampNeg = p := nI_clamp (by omega)
    have mB := b268_32 (e + 3) M J (some (.inr 1)) (nI p)
    rw [if_pos r.inB, r.cB, hn, if_neg (nI_ge (by omega) (by omega)), if_pos i4] at mB
    simp only [cp, nI_1] at mB
    by_cases z : M 65 p = -1
    · obtain ⟨y1, y2⟩ := q p (by omega) z
      have hc := r.cgM (p := p) (by omega) e
      rw [y1] at hc
      (rw [if_pos z] at mB; (try simp only [hc] at mB); rw [am_call_s, am_toL] at mB)
      have oN : optI none = -1 := rfl
      have mB2 := mB.trans (b268_60 (e + 3) M J (some (.inr 1)) (nI p) (optI none))
      rw [oN, if_pos rfl, if_pos i4] at mB2
      simp only [cp, nI_1] at mB2
      rw [if_neg y2] at mB2
      exact mB2.trans (ih (p + 1) (by omega))
    · rw [if_neg z] at mB
      exact mB.trans (ih (p + 1) (by omega))
/-- the next hour in which something may happen -/
theorem c_nh (d : Nat) (C : tI) (J : tJ) (x : Bool) {np nt h : Nat} (e3 : C (tc_P x + 1) 3 = nI np) (h4 : np ≤ 4) (e10 : C 41 10 = nI nt) (h60 : nt ≤ 60) (hl : h ≤ 9999) (hp : ∀ p, p < 4 → bd (C 276 p) 10098) (ht : ∀ t, t < nt → bd (C (150 + 2 * t) 1) 9999 ∧ bd (C (tc_P x) 18) 999) : ∃ e, am_G (am_ev (d + 2)) 4 [.ref 274, .ref 41, .int (nI h)] (C, J, (tc_R x), tc_S, 289, 11479) = some (some (.int (nI e)), (C, J, (tc_R x), tc_S, 289, 11479)) ∧ h < e ∧ e ≤ 10000 ∧ NB C x np nt e h ∧ (e = 10000 ∨ (∃ p, p < np ∧ C 276 p = nI e) ∨ ∃ t, t < nt ∧ C 278 t = 0 ∧ rdy C x t = e) := by
  have one : ∀ k, k ≤ np → ∃ e1 v5, am_ev (d + 2) 4 7 [.ref 274, .ref 41, .int (nI h), .int (nI 10000), .int (nI 0), am_un] [] (C, J, (tc_R x), tc_S, 289, 11479) = am_ev (d + 2) 4 7 [.ref 274, .ref 41, .int (nI h), .int (nI e1), .int (nI k), v5] [] (C, J, (tc_R x), tc_S, 289, 11479) ∧ h < e1 ∧ e1 ≤ 10000 ∧ (∀ p, p < k → h < Int32.toNatClampNeg (C 276 p) → e1 ≤ Int32.toNatClampNeg (C 276 p)) ∧ (e1 = 10000 ∨ ∃ p, p < np ∧ C 276 p = nI e1) := by
    intro k
    induction k with
    | zero => intro _; exact ⟨10000, am_un, rfl, by omega, by omega, fun p hp => by omega, Or.inl rfl⟩
    | succ k ih =>
      intro hk
      obtain ⟨e1, v5, a1, a2, a3, a4, a5⟩ := ih (by omega)
      obtain ⟨c, hc, ec⟩ := hp k (by omega)
      have i4 : am_in (nI k) 4 := nI_in (by omega) (by omega)
      have ck : (nI k).toNatClampNeg = k := nI_clamp (by omega)
      have cc : Int32.toNatClampNeg (C 276 k) = c := by rw [ec]; exact nI_clamp (by omega)
      have st := b4_7 (d + 1) C J x (nI h) (nI e1) (nI k) v5
      rw [if_pos i39, c39, e3, if_neg (nI_ge (by omega) (by omega)), if_pos i4] at st
      simp only [ck, ec, nI_1] at st
      by_cases q : c ≤ h
      · rw [if_pos (nI_le q (by omega))] at st
        refine ⟨e1, v5, a1.trans st, a2, a3, fun p hp2 w => ?_, a5⟩
        by_cases z : p = k
        · subst z; omega
        · exact a4 p (by omega) w
      · rw [if_neg (nI_ge (by omega) (by omega)), if_pos i4, b290_0] at st
        by_cases q2 : c < e1
        · rw [if_pos (nI_lt q2 (by omega)), am_call_s, am_toL, b4_43, nI_1] at st
          refine ⟨c, v5, a1.trans st, by omega, by omega, fun p hp2 w => ?_, Or.inr ⟨k, by omega, ec⟩⟩
          by_cases z : p = k
          · subst z; omega
          · have := a4 p (by omega) w; omega
        · rw [if_neg (nI_nlt (by omega) (by omega)), am_call_s, am_toL, b4_43, nI_1] at st
          refine ⟨e1, v5, a1.trans st, a2, a3, fun p hp2 w => ?_, a5⟩
          by_cases z : p = k
          · subst z; omega
          · exact a4 p (by omega) w
  obtain ⟨e1, v5, a1, a2, a3, a4, a5⟩ := one np (Nat.le_refl _)
  have two : ∀ k, k ≤ nt → ∃ e2 v6, am_ev (d + 2) 4 53 [.ref 274, .ref 41, .int (nI h), .int (nI e1), .int (nI 0), v5] [] (C, J, (tc_R x), tc_S, 289, 11479) = am_ev (d + 2) 4 53 [.ref 274, .ref 41, .int (nI h), .int (nI e2), .int (nI k), v6] [] (C, J, (tc_R x), tc_S, 289, 11479) ∧ h < e2 ∧ e2 ≤ e1 ∧ (∀ t, t < k → C 278 t = 0 → h < rdy C x t → e2 ≤ rdy C x t) ∧ (e2 = e1 ∨ ∃ t, t < nt ∧ C 278 t = 0 ∧ rdy C x t = e2) := by
    intro k
    induction k with
    | zero => intro _; exact ⟨e1, v5, rfl, a2, Nat.le_refl _, fun t ht => by omega, Or.inl rfl⟩
    | succ k ih =>
      intro hk
      obtain ⟨e2, v6, b1, b2, b3, b4, b5⟩ := ih (by omega)
      obtain ⟨⟨b, hb, eb⟩, ⟨a, ha, ea⟩⟩ := ht k (by omega)
      have i60 : am_in (nI k) 60 := nI_in (by omega) (by omega)
      have ck : (nI k).toNatClampNeg = k := nI_clamp (by omega)
      have rk : rdy C x k = b + a := by unfold rdy; (rw [eb, ea]; (try simp (disch := omega) only [nI_clamp]))
      have st := b4_53 (d + 1) C J x (nI h) (nI e2) (nI k) v6
      rw [e10, if_neg (nI_ge (by omega) (by omega)), if_pos i60] at st
      simp only [ck, nI_1] at st
      rw [if_pos (tt_k (k := k) (by omega)), if_pos i60, eb, ea, nI_add] at st
      by_cases s0 : C 278 k = 0
      · rw [if_pos s0] at st
        by_cases q : b + a ≤ h
        · rw [if_pos (nI_le q (by omega))] at st
          refine ⟨e2, _, b1.trans st, b2, b3, fun t ht2 s w => ?_, b5⟩
          by_cases z : t = k
          · subst z; omega
          · exact b4 t (by omega) s w
        · rw [if_neg (nI_ge (by omega) (by omega)), b290_0] at st
          by_cases q2 : b + a < e2
          · rw [if_pos (nI_lt q2 (by omega)), am_call_s, am_toL, b4_104, nI_1] at st
            refine ⟨b + a, _, b1.trans st, by omega, by omega, fun t ht2 s w => ?_, Or.inr ⟨k, by omega, s0, rk⟩⟩
            by_cases z : t = k
            · subst z; omega
            · have := b4 t (by omega) s w; omega
          · rw [if_neg (nI_nlt (by omega) (by omega)), am_call_s, am_toL, b4_104, nI_1] at st
            refine ⟨e2, _, b1.trans st, b2, b3, fun t ht2 s w => ?_, b5⟩
            by_cases z : t = k
            · subst z; omega
            · exact b4 t (by omega) s w
      · rw [if_neg s0] at st
        refine ⟨e2, _, b1.trans st, b2, b3, fun t ht2 s w => ?_, b5⟩
        by_cases z : t = k
        · subst z; exact absurd s s0
        · exact b4 t (by omega) s w
  obtain ⟨e2, v6, b1, b2, b3, b4, b5⟩ := two nt (Nat.le_refl _)
  refine ⟨e2, ?_, b2, by omega, ⟨fun p hp2 w => by have := a4 p hp2 w; omega, b4⟩, ?_⟩
  · rw [b4_0]
    refine Eq.trans a1 ?_
    rw [b4_7, if_pos i39, c39, e3, if_pos (Int32.le_refl _)]
    refine Eq.trans b1 ?_
    rw [b4_53, e10, if_pos (Int32.le_refl _)]
  · rcases b5 with z | z
    · rcases a5 with y | y
      · exact Or.inl (by omega)
      · exact Or.inr (Or.inl (by rw [z]; exact y))
    · exact Or.inr (Or.inr z)
/-- the measure falls with every jump -/
theorem FS.jump (r : Rl x V M J) (en : nt = Int32.toNatClampNeg (M 0 74)) (f : FS nt C M h) {np e : Nat} (h4 : np ≤ 4) (he : h < e) (h9 : e ≤ 9999) (a : e = 10000 ∨ (∃ p, p < np ∧ C 276 p = nI e) ∨ ∃ t, t < nt ∧ C 278 t = 0 ∧ rdy C x t = e) : nsm (wt C x e) nt < nsm (wt C x h) nt := by
  have hpp := r.H.2.2.2.2.1
  have le : ∀ t, wt C x e t ≤ wt C x h t := by
    intro t
    unfold wt
    have z1 : (if C 278 t = 0 ∧ e < rdy C x t then 1 else 0) ≤ (if C 278 t = 0 ∧ h < rdy C x t then 1 else 0) := by
      by_cases q : C 278 t = 0 ∧ e < rdy C x t
      · rw [if_pos q, if_pos ⟨q.1, by omega⟩]; omega
      · rw [if_neg q]; omega
    have z2 : (if e < Int32.toNatClampNeg (C 279 t) then 1 else 0) ≤ (if h < Int32.toNatClampNeg (C 279 t) then 1 else 0) := by
      by_cases q : e < Int32.toNatClampNeg (C 279 t)
      · rw [if_pos q, if_pos (by omega)]; omega
      · rw [if_neg q]; omega
    omega
  rcases a with a | ⟨p, hp, ep⟩ | ⟨t, ht, s0, rt⟩
  · omega
  · obtain ⟨g1, g2, g3⟩ := f.2.1 p (by omega)
    have q : M 65 p ≠ -1 := fun w => by
      have := g2 w
      (rw [ep] at this; (try simp (disch := omega) only [nI_clamp] at this))
      omega
    have w := (hpp.1 p (by omega)).2.2.2.2.resolve_left q
    obtain ⟨y1, y2⟩ := g3 q
    have e9 : Int32.toNatClampNeg (C 279 (Int32.toNatClampNeg (M 65 p))) = e := by rw [y2, ← y1, ep]; exact nI_clamp (by omega)
    refine nsm_lt (i := Int32.toNatClampNeg (M 65 p)) ?_ nt (by rw [en]; exact w.2.1) (fun t _ => le t)
    unfold wt
    rw [e9, if_neg (Nat.lt_irrefl e), if_pos he]
    have z1 : (if C 278 (Int32.toNatClampNeg (M 65 p)) = 0 ∧ e < rdy C x (Int32.toNatClampNeg (M 65 p)) then 1 else 0) ≤ (if C 278 (Int32.toNatClampNeg (M 65 p)) = 0 ∧ h < rdy C x (Int32.toNatClampNeg (M 65 p)) then 1 else 0) := by
      by_cases q : C 278 (Int32.toNatClampNeg (M 65 p)) = 0 ∧ e < rdy C x (Int32.toNatClampNeg (M 65 p))
      · rw [if_pos q, if_pos ⟨q.1, by omega⟩]; omega
      · rw [if_neg q]; omega
    omega
  · refine nsm_lt (i := t) ?_ nt ht (fun t _ => le t)
    unfold wt
    rw [rt, if_pos s0, if_neg (show ¬ (C 278 t = 0 ∧ e < e) from fun w => Nat.lt_irrefl e w.2), if_pos (show C 278 t = 0 ∧ h < e from ⟨s0, he⟩)]
    have z2 : (if e < Int32.toNatClampNeg (C 279 t) then 1 else 0) ≤ (if h < Int32.toNatClampNeg (C 279 t) then 1 else 0) := by
      by_cases q : e < Int32.toNatClampNeg (C 279 t)
      · rw [if_pos q, if_pos (by omega)]; omega
      · rw [if_neg q]; omega
    omega
/-- one hour of the model, up to the end of its pass -/
theorem FS.one (h0 : Rl x C0 M0 J) (en : nt = Int32.toNatClampNeg (M0 0 74)) {np : Nat} (hn : M0 20 (xb x) = nI np) (h4 : np ≤ 4) (hl : h ≤ 9999) (d e : Nat) {k ev : Nat} (v2 : Value) (sC : StC C0 C) (sM : StM nt M0 M) (r : Rl x V M J) (eh : M 0 65 = nI h) (f : FS nt C M h) (c : (ev = h ∧ k + nsm (wt C x h) nt ≤ 120) ∨ (h < ev ∧ ev ≤ 10000 ∧ Qt x M np ∧ NB C x np nt ev h ∧ (ev ≤ 9999 → k + nsm (wt C x ev) nt ≤ 120))) : ∃ (C1 M1 V1 : tI) (ev1 k1 : Nat), am_ev (d + 3) 1 12 [.ref 274, .ref 41, .int (nI ev), .int (nI k)] [] (C, Jc, (tc_R x), tc_S, 289, 11479) = am_ev (d + 3) 1 12 [.ref 274, .ref 41, .int (nI ev1), .int (nI k1)] [] (C1, Jc, (tc_R x), tc_S, 289, 11479) ∧ am_ev (e + 4) 268 26 [.ref 0, .int 1, v2] [] (M, J, tm_R, tm_S, 77, 21637) = am_ev (e + 4) 268 32 [.ref 0, .int 1, .int (nI np)] [] (M1, J, tm_R, tm_S, 77, 21637) ∧ StC C0 C1 ∧ StM nt M0 M1 ∧ Rl x V1 M1 J ∧ M1 0 65 = nI h ∧ FS nt C1 M1 h ∧ h < ev1 ∧ ev1 ≤ 10000 ∧ Qt x M1 np ∧ NB C1 x np nt ev1 h ∧ (ev1 ≤ 9999 → k1 + nsm (wt C1 x ev1) nt ≤ 120) := by
  have hx := tc_P4 x
  have n74 := h0.n74
  have m0 : am_ev (e + 4) 268 26 [.ref 0, .int 1, v2] [] (M, J, tm_R, tm_S, 77, 21637) = am_ev (e + 4) 268 32 [.ref 0, .int 1, .int (nI 0)] [] (M, J, tm_R, tm_S, 77, 21637) := by
    rw [b268_26, if_neg (by decide : ¬ (1 : Int32) = 0)]; rfl
  rcases c with ⟨rfl, hk⟩ | ⟨c1, c2, c3, c4, c5⟩
  · obtain ⟨C1, M1, V1, a1, a2, a3, a4, a5, a6, a7, a8, a9⟩ := FS.pass (Jc := Jc) h0 en hn h4 hl d e np 0 C M V am_un am_un (by omega) sC sM r eh f (fun p hp => by omega)
    have e3 : C1 (tc_P x + 1) 3 = nI np := by rw [a3 _ _ (by omega), h0.Pc.2.2.2.1.1]; exact hn
    have e10 : C1 41 10 = nI nt := by rw [a3 _ _ (by omega), h0.nt, en]; exact h0.ntB.eq (by omega)
    obtain ⟨ev1, n1, n2, n3, n4, n5⟩ := c_nh d C1 Jc x e3 h4 e10 (by omega) hl (fun p hp => (a7.2.1 p hp).1) (fun t ht => by
      have ht' : t < Int32.toNatClampNeg (M0 0 74) := by omega
      have gt := h0.H.2.2.2.1 t ht'
      obtain ⟨z1, z2, z3, _⟩ := h0.pz ht'
      rw [a3 (150 + 2 * t) 1 (by omega), gt.2.2.1, a3 (tc_P x) 18 (by omega), z1]
      exact ⟨gt.2.2.2.2.2.2.2.2.2.2.1, z3⟩)
    have wl : nsm (wt C1 x ev) nt ≤ nsm (wt C x ev) nt := nsm_le nt a9
    have e74 : nt = Int32.toNatClampNeg (M1 0 74) := by rw [a4 0 74 (by omega) (by omega) (by omega) (by omega)]; exact en
    refine ⟨C1, M1, V1, ev1, k + 1, ?_, m0.trans a2, a3, a4, a5, a6, a7, n2, n3, a8, n4, fun z => ?_⟩
    · have a1' : am_G (am_ev (d + 2)) 3 [.ref 274, .ref 41, .int (nI ev)] (C, Jc, (tc_R x), tc_S, 289, 11479) = some (none, (C1, Jc, (tc_R x), tc_S, 289, 11479)) := by
        rw [b3_0]; exact a1
      rw [b1_12, if_neg (show ¬ (122 : Int32) ≤ nI k from nI_ge (b := 122) (by omega) (by omega)), if_neg (show ¬ (9999 : Int32) < nI ev from nI_nlt (a := 9999) (by omega) (by omega)), a1', am_call_s, am_toN, b1_31, n1, am_call_s, am_toL, b1_37, nI_1]
    · have := a7.jump a5 e74 h4 n2 z n5
      omega
  · have c20 : M 20 (xb x) = nI np := (sM 20 _ (by omega) (by omega) (by omega) (by omega)).trans hn
    exact ⟨C, M, V, ev, k, rfl, m0.trans (c3.pass r c20 h4 e np 0 (by omega)), sC, sM, r, eh, f, c1, c2, c3, c4, c5⟩
theorem FS.fore (h0 : Rl x C0 M0 J) (en : nt = Int32.toNatClampNeg (M0 0 74)) {np : Nat} (hn : M0 20 (xb x) = nI np) (h4 : np ≤ 4) (d e : Nat) : ∀ (n h k ev : Nat) (C M V : tI) (v2 : Value), h + n = 9999 → StC C0 C → StM nt M0 M → Rl x V M J → M 0 65 = nI h → FS nt C M h → ((ev = h ∧ k + nsm (wt C x h) nt ≤ 120) ∨ (h < ev ∧ ev ≤ 10000 ∧ Qt x M np ∧ NB C x np nt ev h ∧ (ev ≤ 9999 → k + nsm (wt C x ev) nt ≤ 120))) → ∃ (C' M' V' : tI), am_ev (d + 3) 1 12 [.ref 274, .ref 41, .int (nI ev), .int (nI k)] [] (C, Jc, (tc_R x), tc_S, 289, 11479) = some (none, (C', Jc, (tc_R x), tc_S, 289, 11479)) ∧ am_ev (e + 4) 268 26 [.ref 0, .int 1, v2] [] (M, J, tm_R, tm_S, 77, 21637) = am_ev (e + 4) 268 120 [.ref 0, .int 0, .int 0] [] (M', J, tm_R, tm_S, 77, 21637) ∧ StC C0 C' ∧ StM nt M0 M' ∧ Rl x V' M' J ∧ M' 0 65 = nI 9999 ∧ FS nt C' M' 9999 := by
  intro n
  induction n with
  | zero =>
    intro h k ev C M V v2 hh sC sM r eh f c
    have hh : h = 9999 := by omega
    subst hh
    obtain ⟨C1, M1, V1, ev1, k1, a1, a2, a3, a4, a5, a6, a7, a8, a9, a10, a11, a12⟩ := f.one (Jc := Jc) h0 en hn h4 (by omega) d e v2 sC sM r eh c
    have c20 : M1 20 (xb x) = nI np := (a4 20 _ (by omega) (by omega) (by omega) (by omega)).trans hn
    refine ⟨C1, M1, V1, a1.trans ?_, a2.trans ?_, a3, a4, a5, a6, a7⟩
    · rw [b1_12]
      by_cases q : (122 : Int32) ≤ nI k1
      · rw [if_pos q]
      · rw [if_neg q, if_pos (show (9999 : Int32) < nI ev1 from nI_lt (a := 9999) (by omega) (by omega))]
    · refine (b268_32 (e + 3) M1 J (some (.inr 1)) (nI np)).trans ?_
      rw [if_pos a5.inB, a5.cB, c20, if_pos (Int32.le_refl _), a6, if_pos (show (9999 : Int32) ≤ nI 9999 from Int32.le_refl _)]
      refine (b268_105 (e + 3) M1 J (.int 1) (.int (nI np)) 0).trans ?_
      rw [if_pos rfl, b268_26, if_pos rfl]
  | succ n ih =>
    intro h k ev C M V v2 hh sC sM r eh f c
    obtain ⟨C1, M1, V1, ev1, k1, a1, a2, a3, a4, a5, a6, a7, a8, a9, a10, a11, a12⟩ := f.one (Jc := Jc) h0 en hn h4 (by omega) d e v2 sC sM r eh c
    have c20 : M1 20 (xb x) = nI np := (a4 20 _ (by omega) (by omega) (by omega) (by omega)).trans hn
    have e74 : nt = Int32.toNatClampNeg (M1 0 74) := by rw [a4 0 74 (by omega) (by omega) (by omega) (by omega)]; exact en
    have hpp := a5.H.2.2.2.2.1
    have mh := m_hour (e + 2) M1 J a5.B (xb1 x) c20 h4 a6 (fun p hp w => ((hpp.1 p (by omega)).2.2.2.2.resolve_left w).1)
    have key : am_ev (e + 4) 268 32 [.ref 0, .int 1, .int (nI np)] [] (M1, J, tm_R, tm_S, 77, 21637) = am_ev (e + 4) 268 26 [.ref 0, .int 1, .int (nI np)] [] (hgM M1 np (h + 1), J, tm_R, tm_S, 77, 21637) := by
      refine (b268_32 (e + 3) M1 J (some (.inr 1)) (nI np)).trans ?_
      rw [if_pos a5.inB, a5.cB, c20, if_pos (Int32.le_refl _), a6, if_neg (show ¬ (9999 : Int32) ≤ nI h from nI_ge (b := 9999) (by omega) (by omega))]
      refine (b268_105 (e + 3) M1 J (.int 1) (.int (nI np)) 1).trans ?_
      rw [if_neg (by decide : ¬ (1 : Int32) = 0), mh, am_call_s, am_toL, b268_114]
    have c' : (ev1 = h + 1 ∧ k1 + nsm (wt C1 x (h + 1)) nt ≤ 120) ∨ (h + 1 < ev1 ∧ ev1 ≤ 10000 ∧ Qt x (hgM M1 np (h + 1)) np ∧ NB C1 x np nt ev1 (h + 1) ∧ (ev1 ≤ 9999 → k1 + nsm (wt C1 x ev1) nt ≤ 120)) := by
      by_cases q : ev1 = h + 1
      · refine Or.inl ⟨q, ?_⟩
        have := a12 (by omega)
        rw [q] at this
        exact this
      · exact Or.inr ⟨by omega, a9, Qt.hour h0 a3 a4 a5 en a6 (by omega) c20 h4 a7 a10 a11 (by omega), a11.hour, a12⟩
    obtain ⟨C2, M2, V2, b1, b2, b3⟩ := ih (h + 1) k1 ev1 C1 (hgM M1 np (h + 1)) _ (.int (nI np)) (by omega) a3 (a4.hour a5 e74 h4 _) (a5.hr a6 (by omega) c20 h4) hgM_h (a7.hour a5 e74 a6 (by omega) c20 h4) c'
    exact ⟨C2, M2, V2, a1.trans b1, a2.trans (key.trans b2), b3⟩
end AH3
