/-! a press in an hour ahead, on both sides -/
section AH2
variable {x : Bool} {C C0 M M0 V : tI} {J Jc : tJ} {nt h : Nat}
theorem nx_cur (r : Rl x V M J) {p t m q : Nat} (hp : p < 4) (hq : q < 4) (e : nxM M x p = some t) (em : M 64 p = nI m) (hm : m ≤ 7) (pq : q ≠ p) (q5 : M 65 q = -1) (n : nxM M x q = none) : nxM (curM M x p t m) x q = none := by
  have hpp := r.H.2.2.2.2.1
  have ne : M 64 q = -1 ∨ M 64 q ≠ nI m := by
    rcases Nat.lt_or_ge q p with z | z
    · rw [← em]; exact (hpp.2.1 q p z hp).1
    · rcases (hpp.2.1 p q (by omega) hq).1 with y | y
      · rw [em] at y; exact absurd y (nI_ne (by omega))
      · exact Or.inr (fun w => y (em.trans w.symm))
  have fM : ∀ a b, (a = 55 ∨ a = 59 ∨ a = 60 ∨ a = 61 → b ≠ t) → (a = 65 ∨ a = 66 → b ≠ p) → (a = 67 → b ≠ m) → curM M x p t m a b = M a b := fun a b q1 q2 q3 => fr7 (by omega) (by omega) (by omega) (by omega) (by omega) (by omega) (by omega)
  have m55 : curM M x p t m 55 t = 1 := by unfold curM; simp (disch := omega) only [u2_c, u2_p, u2_s]
  unfold nxM at n ⊢
  rw [fM 65 q (by omega) (by omega) (by omega), if_pos q5, fM 64 q (by omega) (by omega) (by omega), fM 25 _ (by omega) (by omega) (by omega), fM 0 74 (by omega) (by omega) (by omega)]
  rw [if_pos q5] at n
  by_cases q1 : M 64 q = -1
  · rw [if_pos q1]
  · have g := hpp.1 q hq
    obtain ⟨b7, _⟩ := g.2.2.2.1.resolve_left q1
    have nm : Int32.toNatClampNeg (M 64 q) ≠ m := by
      intro w
      exact (ne.resolve_left q1) (by rw [← w]; exact b7.eq (by omega))
    rw [if_neg q1] at n ⊢
    rw [fM 67 _ (by omega) (by omega) (by omega)]
    by_cases q2 : M 67 (Int32.toNatClampNeg (M 64 q)) < M 25 (8 * xb x + Int32.toNatClampNeg (M 64 q))
    · rw [if_pos q2] at n ⊢
      refine fnd_no _ _ (fun u _ hu => ?_)
      have y := fnd_none _ _ n u (by omega) hu
      refine decide_eq_false (fun w => of_decide_eq_false y ?_)
      obtain ⟨w1, w2, w3, w4⟩ := w
      have ut : u ≠ t := by
        intro z; subst z; rw [m55] at w1; exact absurd w1 (by decide)
      rw [fM 55 u (by omega) (by omega) (by omega)] at w1
      rw [fM 54 u (by omega) (by omega) (by omega), fM 24 _ (by omega) (by omega) (by omega)] at w2
      rw [fM 32 _ (by omega) (by omega) (by omega), fM 56 _ (by omega) (by omega) (by omega), fM 0 65 (by omega) (by omega) (by omega)] at w3
      rw [fM 33 _ (by omega) (by omega) (by omega), fM 56 _ (by omega) (by omega) (by omega), fM 0 65 (by omega) (by omega) (by omega)] at w4
      exact ⟨w1, w2, w3, w4⟩
    · rw [if_neg q2]
theorem nx_74 (M : tI) (x : Bool) (p : Nat) (v : Int32) (q : Nat) : nxM (am_u2 M 74 p v) x q = nxM M x q := by
  have fM : ∀ a b, a ≠ 74 → am_u2 M 74 p v a b = M a b := fun a b z => u2_c z
  unfold nxM
  rw [fM 65 q (by omega), fM 64 q (by omega), fM 67 _ (by omega), fM 25 _ (by omega), fM 0 74 (by omega)]
  have : (fun t => decide (ncM (am_u2 M 74 p v) x (Int32.toNatClampNeg (M 64 q)) t)) = fun t => decide (ncM M x (Int32.toNatClampNeg (M 64 q)) t) := by
    funext t
    refine decide_eq_decide.mpr ?_
    unfold ncM
    rw [fM 55 t (by omega), fM 54 t (by omega), fM 24 _ (by omega), fM 32 _ (by omega), fM 33 _ (by omega), fM 56 _ (by omega), fM 0 65 (by omega)]
  rw [this]
theorem FS.step (h0 : Rl x C0 M0 J) (en : nt = Int32.toNatClampNeg (M0 0 74)) {np : Nat} (hn : M0 20 (xb x) = nI np) (h4 : np ≤ 4) (sC : StC C0 C) (sM : StM nt M0 M) (r : Rl x V M J) (eh : M 0 65 = nI h) (hl : h ≤ 9999) (f : FS nt C M h) {p : Nat} (hp : p < np) (qt : Qt x M p) (d e : Nat) (v4 v5 : Value) : ∃ (C' M' V' : tI) (w4 w5 : Value), am_ev (d + 2) 3 2 [.ref 274, .ref 41, .int (nI h), .int (nI p), v4, v5] [] (C, Jc, (tc_R x), tc_S, 289, 11479) = am_ev (d + 2) 3 2 [.ref 274, .ref 41, .int (nI h), .int (nI (p + 1)), w4, w5] [] (C', Jc, (tc_R x), tc_S, 289, 11479) ∧ am_ev (e + 4) 268 32 [.ref 0, .int 1, .int (nI p)] [] (M, J, tm_R, tm_S, 77, 21637) = am_ev (e + 4) 268 32 [.ref 0, .int 1, .int (nI (p + 1))] [] (M', J, tm_R, tm_S, 77, 21637) ∧ StC C0 C' ∧ StM nt M0 M' ∧ Rl x V' M' J ∧ M' 0 65 = nI h ∧ FS nt C' M' h ∧ Qt x M' (p + 1) ∧ ∀ t, t < nt → wt C' x h t ≤ wt C x h t := by
  have hx := tc_P4 x
  have n74 := h0.n74
  have hpp := r.H.2.2.2.2.1
  have p4 : p < 4 := by omega
  have g := h0.H.2.2.2.2.1.1 p p4
  have i4 : am_in (nI p) 4 := nI_in p4 (by omega)
  have cp : (nI p).toNatClampNeg = p := nI_clamp (by omega)
  have c20 : M 20 (xb x) = nI np := (sM 20 _ (by omega) (by omega) (by omega) (by omega)).trans hn
  have e3 : C (tc_P x + 1) 3 = nI np := by rw [sC _ _ (by omega), h0.Pc.2.2.2.1.1]; exact hn
  obtain ⟨f1, f2, f3, f4⟩ := f
  have f : FS nt C M h := ⟨f1, f2, f3, f4⟩
  obtain ⟨g1, g2, g3⟩ := f2 p p4
  have mB := b268_32 (e + 3) M J (some (.inr 1)) (nI p)
  rw [if_pos r.inB, r.cB, c20, if_neg (nI_ge hp (by omega)), if_pos i4] at mB
  simp only [cp, nI_1] at mB
  have cB := b3_2 (d + 1) C Jc x (nI h) (nI p) v4 v5
  rw [if_pos i39, c39, e3, if_neg (nI_ge hp (by omega)), if_pos i4] at cB
  simp only [cp, nI_1] at cB
  by_cases q : M 65 p = -1
  · have le := g2 q
    have hle : C 276 p ≤ nI h := by rw [g1.eq (by omega)]; exact nI_le (by omega) (by omega)
    have hc := r.cgM p4 e
    have nx := f.nx h0 sC sM en eh p4 q
    rw [if_pos q] at mB
    have hmd : C (270 + p) 0 = -1 ∨ bd (C (270 + p) 0) 7 := by rw [sC _ _ (by omega), g.1]; exact g.2.2.2.1.imp id And.left
    have h41 : bd (C 41 10) 60 := by rw [sC _ _ (by omega), h0.nt]; exact h0.ntB
    rw [if_pos hle, if_pos i4, if_pos (tp_k p4), c_next d C Jc x (by decide +kernel) (by omega) (by decide +kernel) (by omega) hmd h41, nx, am_call_s, am_toL] at cB
    cases en' : nxM M x p with
    | none =>
      rw [en'] at hc cB
      ((try simp only [hc] at mB); rw [am_call_s, am_toL] at mB)
      have oN : optI none = -1 := rfl
      have mB2 := mB.trans (b268_60 (e + 3) M J (some (.inr 1)) (nI p) (optI none))
      rw [oN, if_pos rfl, if_pos i4] at mB2
      simp only [cp, nI_1] at mB2
      have cB2 := cB.trans (b3_54 (d + 1) C Jc x (nI h) (nI p) (C (270 + p) 0) v5 (optI none))
      rw [oN, if_pos rfl, if_pos i4] at cB2
      simp only [cp, nI_1] at cB2
      rw [f1 p p4] at cB2
      by_cases q2 : M 74 p = -1
      · rw [if_pos q2, if_pos i4, eh] at mB2
        rw [if_pos q2, if_pos i4] at cB2
        refine ⟨_, _, V, _, _, cB2, mB2, fun a b z => by rw [u2_c (by omega)]; exact sC a b z, fun a b z1 z2 z3 z4 => by rw [fr1 (by omega)]; exact sM a b z1 z2 z3 z4, r.scr (fun _ _ _ => rfl) (fun a b z => u2_c (by omega)) (fun _ _ _ => rfl), by rw [u2_c (by omega)]; exact eh, ⟨fun k hk => ?_, fun k hk => ?_, fun k hk => ?_, fun k hk => ?_⟩, fun k hk z => ?_, fun t ht => ?_⟩
        · by_cases z : k = p
          · subst z; rw [u2_s, u2_s]
          · rw [u2_p z, u2_p z]; exact f1 k hk
        · rw [u2_c (by omega), u2_c (by omega), u2_c (by omega), u2_c (by omega)]; exact f2 k hk
        · rw [u2_c (by omega), u2_c (by omega)]; exact f3 k hk
        · rw [u2_c (by omega), u2_c (by omega), u2_c (by omega), u2_c (by omega)]; exact f4 k hk
        · rw [u2_c (by omega)] at z
          rw [nx_74]
          by_cases y : k = p
          · subst y; rw [u2_s]; exact ⟨en', nI_ne (by omega)⟩
          · rw [u2_p y]; exact qt k (by omega) z
        · unfold wt rdy
          rw [u2_c (by omega), u2_c (by omega), u2_c (by omega), u2_c (by omega)]
          exact Nat.le_refl _
      · rw [if_neg q2] at mB2 cB2
        refine ⟨_, _, V, _, _, cB2, mB2, sC, sM, r, eh, f, fun k hk z => ?_, fun t ht => Nat.le_refl _⟩
        by_cases y : k = p
        · subst y; exact ⟨en', q2⟩
        · exact qt k (by omega) z
    | some t =>
      obtain ⟨_, m, hm, lt, em, u2, htn, s0, sz⟩ := r.nxS p4 en'
      have cm : (nI m).toNatClampNeg = m := nI_clamp (by omega)
      (rw [en', em] at hc; (try simp only [cm] at hc))
      try dsimp only at hc
      have cu := r.cure p4 en' em hm
      have e74 : M 0 74 = M0 0 74 := sM 0 74 (by omega) (by omega) (by omega) (by omega)
      have ht : t < nt := by rw [en, ← e74]; exact htn
      have i60 : am_in (nI t) 60 := nI_in (by omega) (by omega)
      have i8 : am_in (nI m) 8 := nI_in (by omega) (by omega)
      have ct : (nI t).toNatClampNeg = t := nI_clamp (by omega)
      have gt := h0.H.2.2.2.1 t (by omega)
      have e54 : M 54 t = M0 54 t := sM 54 t (by omega) (by omega) (by omega) (by omega)
      obtain ⟨z, hz, ez⟩ := gt.2.2.2.2.2.2.2.1
      have zl := gt.2.2.2.2.2.2.2.2.1
      (rw [ez] at zl; (try simp (disch := omega) only [nI_clamp] at zl))
      obtain ⟨gs1, gs2, gs3⟩ := h0.P.2.2.2.2.1 z zl
      obtain ⟨w, hw, ew⟩ := gs2
      (rw [ew] at gs3; (try simp (disch := omega) only [nI_clamp] at gs3))
      have cz : (nI z).toNatClampNeg = z := nI_clamp (by omega)
      have oe : optI (some t) = nI t := rfl
      have e64 : C (270 + p) 0 = nI m := by rw [sC _ _ (by omega), g.1, ← sM 64 p (by omega) (by omega) (by omega) (by omega)]; exact em
      have es : C (150 + 2 * t) 0 = nI z := by rw [sC _ _ (by omega), gt.1]; exact ez
      have e13 : C (tc_P x + 13) z = nI w := by rw [sC _ _ (by omega), gs1]; exact ew
      ((try simp only [hc] at mB); rw [am_call_s, am_toL, oe] at mB)
      have mB2 := mB.trans (b268_60 (e + 3) (curM M x p t m) J (some (.inr 1)) (nI p) (nI t))
      rw [if_neg (nI_ne (by omega)), nI_1] at mB2
      rw [en', oe, e64] at cB
      have cB2 := cB.trans (b3_54 (d + 1) C Jc x (nI h) (nI p) (nI m) v5 (nI t))
      have k1 : 150 + 2 * t ≠ 277 := by omega
      have k2 : 150 + 2 * t ≠ 278 := by omega
      have r0 : am_u2 (am_u2 C 278 t 1) 277 m (C 277 m + 1) (150 + 2 * t) 0 = nI z := by rw [u2_c k1, u2_c k2]; exact es
      rw [if_neg (nI_ne (by omega)), if_pos i60, if_pos i8, if_pos i8, if_pos i60] at cB2
      simp only [cp, ct, cm, nI_1, r0, cz] at cB2
      rw [if_pos (tt_k (k := t) (by omega)), if_pos (nI_in (by omega) (by omega)), if_pos i4, if_pos i4, if_pos i60, e13, nI_add, u2_s] at cB2
      have fM : ∀ a b, (a = 55 ∨ a = 59 ∨ a = 60 ∨ a = 61 → b ≠ t) → (a = 65 ∨ a = 66 → b ≠ p) → (a = 67 → b ≠ m) → curM M x p t m a b = M a b := fun a b q1 q2 q3 => fr7 (by omega) (by omega) (by omega) (by omega) (by omega) (by omega) (by omega)
      have m55 : curM M x p t m 55 t = 1 := by unfold curM; simp (disch := omega) only [u2_c, u2_p, u2_s]
      have m65 : curM M x p t m 65 p = nI t := by unfold curM; simp (disch := omega) only [u2_c, u2_p, u2_s]
      have m66 : curM M x p t m 66 p = nI (h + w) := by
        unfold curM
        rw [u2_s, eh, e54, ez, cz, sM 13 _ (by omega) (by omega) (by omega) (by omega), ew, nI_add]
      have m67 : curM M x p t m 67 m = M 67 m + 1 := by unfold curM; simp (disch := omega) only [u2_c, u2_p, u2_s]
      refine ⟨_, _, _, _, _, cB2, mB2, fun a b z => by rw [u2_c (by omega), u2_c (by omega), u2_c (by omega), u2_c (by omega)]; exact sC a b z, fun a b z1 z2 z3 z4 => by rw [fM a b (by omega) (by omega) (by omega)]; exact sM a b z1 z2 z3 z4, cu, by rw [fM 0 65 (by omega) (by omega) (by omega)]; exact eh, ⟨fun k hk => ?_, fun k hk => ?_, fun k hk => ?_, fun k hk => ?_⟩, fun k hk z => ?_, fun k hk => ?_⟩
      · rw [u2_c (by omega), u2_c (by omega), u2_c (by omega), u2_c (by omega), fM 74 k (by omega) (by omega) (by omega)]; exact f1 k hk
      · rw [u2_c (by omega)]
        by_cases y : k = p
        · subst y
          (rw [u2_s, m65, m66]; (try simp only [ct]); rw [u2_s])
          exact ⟨bd_nI (by omega), fun w => absurd w (nI_ne (by omega)), fun _ => by first | exact ⟨rfl, rfl⟩ | exact ⟨trivial, rfl⟩ | exact ⟨rfl, trivial⟩ | trivial⟩
        · rw [u2_p y, u2_c (by omega), u2_c (by omega), fM 65 k (by omega) (by omega) (by omega), fM 66 k (by omega) (by omega) (by omega)]
          obtain ⟨a1, a2, a3⟩ := f2 k hk
          refine ⟨a1, a2, fun z => ?_⟩
          have w := (hpp.1 k hk).2.2.2.2.resolve_left z
          have ne : Int32.toNatClampNeg (M 65 k) ≠ t := by
            intro w2; have w3 := w.2.2.1; rw [w2, s0] at w3; exact absurd w3 (by decide)
          rw [u2_p ne, u2_c (by omega), u2_c (by omega), u2_c (by omega)]
          exact a3 z
      · rw [u2_c (by omega), u2_c (by omega)]
        by_cases y : k = m
        · subst y; rw [u2_s, m67, f3 k hk]
        · rw [u2_p y, u2_c (by omega), fM 67 k (by omega) (by omega) (by omega)]; exact f3 k hk
      · rw [u2_c (by omega), u2_c (by omega), u2_c (by omega), fM 62 k (by omega) (by omega) (by omega)]
        by_cases y : k = t
        · subst y
          rw [u2_s, u2_s, m55]
          refine ⟨⟨fun w => absurd w (by decide), fun w => absurd w (by decide)⟩, fun w => ?_, fun w => absurd w (by decide)⟩
          rcases w with w | w <;> exact absurd w (by decide)
        · rw [u2_p y, u2_p y, u2_c (by omega), u2_c (by omega), u2_c (by omega), fM 55 k (by omega) (by omega) (by omega)]
          exact f4 k hk
      · by_cases y : k = p
        · subst y; rw [m65] at z; exact absurd z (nI_ne (by omega))
        · rw [fM 65 k (by omega) (by omega) (by omega)] at z
          obtain ⟨a1, a2⟩ := qt k (by omega) z
          exact ⟨nx_cur r p4 (by omega) en' em hm y z a1, by rw [fM 74 k (by omega) (by omega) (by omega)]; exact a2⟩
      · unfold wt rdy
        rw [u2_c (k := 279) (a := 278) (by omega), u2_c (k := 276) (a := 278) (by omega), u2_c (k := 277) (a := 278) (by omega)]
        rw [u2_c (k := 279) (a := 150 + 2 * k) (by omega), u2_c (k := 276) (a := 150 + 2 * k) (by omega), u2_c (k := 277) (a := 150 + 2 * k) (by omega), u2_c (k := 278) (a := 150 + 2 * k) (by omega)]
        rw [u2_c (k := 279) (a := tc_P x) (by omega), u2_c (k := 276) (a := tc_P x) (by omega), u2_c (k := 277) (a := tc_P x) (by omega), u2_c (k := 278) (a := tc_P x) (by omega)]
        by_cases y : k = t
        · subst y
          rw [u2_s, u2_s, if_neg (by decide : ¬ (1 : Int32) = 0), if_neg (fun w => absurd w.1 (by decide)), if_pos ((f4 k hk).1.mpr s0)]
          split <;> split <;> omega
        · rw [u2_p y, u2_p y, u2_c (k := 276) (a := 279) (by omega), u2_c (k := 277) (a := 279) (by omega), u2_c (k := 278) (a := 279) (by omega)]
          exact Nat.le_refl _
  · have w := (hpp.1 p p4).2.2.2.2.resolve_left q
    have hgt : ¬ C 276 p ≤ nI h := by
      rw [(g3 q).1]
      obtain ⟨k, hk, ek⟩ := w.2.2.2.2.2.1
      have l := w.2.2.2.2.2.2.1
      (rw [eh, ek] at l; (try simp (disch := omega) only [nI_clamp] at l))
      rw [ek]
      exact nI_ge l (by omega)
    rw [if_neg hgt] at cB
    rw [if_neg q] at mB
    refine ⟨C, M, V, _, _, cB, mB, sC, sM, r, eh, f, fun k hk z => ?_, fun t ht => Nat.le_refl _⟩
    by_cases y : k = p
    · subst y; exact absurd z q
    · exact qt k (by omega) z
end AH2
