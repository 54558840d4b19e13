/-! cure -/
def optI (o : Option Nat) : Int32 := match o with
  | some t => nI t
  | none => -1
/-- the class's nextFor, of any two rows of states and cures -/
abbrev ncC (C : tI) (x : Bool) (a3 m : Nat) (at_ : Int32) (t : Nat) : Prop := C a3 t = 0 ∧ C (150 + 2 * t) 0 = C (tc_P x + 28) m ∧ ¬ at_ - C (150 + 2 * t) 1 < C (tc_P x) 18 ∧ ¬ C (tc_P x) 19 < at_ - C (150 + 2 * t) 1
def nxC (C : tI) (x : Bool) (a3 a4 : Nat) (md at_ : Int32) : Option Nat := if md = -1 then none else if C a4 (Int32.toNatClampNeg md) < C (tc_P x + 29) (Int32.toNatClampNeg md) then fnd (fun t => decide (ncC C x a3 (Int32.toNatClampNeg md) at_ t)) (Int32.toNatClampNeg (C 41 10)) 0 else none
theorem c_next (d : Nat) (C : tI) (J : tJ) (x : Bool) {a3 a4 : Nat} {md at_ : Int32} (h3 : tc_S a3 = (20, 60)) (l3 : a3 < 289) (h4 : tc_S a4 = (20, 8)) (l4 : a4 < 289) (hm : md = -1 ∨ bd md 7) (hn : bd (C 41 10) 60) : am_G (am_ev (d + 1)) 31 [.ref 41, .int md, .int at_, .ref a3, .ref a4] (C, J, (tc_R x), tc_S, 289, 11479) = some (some (.int (optI (nxC C x a3 a4 md at_))), (C, J, (tc_R x), tc_S, 289, 11479)) := by
  unfold nxC
  rw [b31_0]
  by_cases q : md = -1
  · rw [if_pos q, if_pos q]; rfl
  · obtain ⟨m, hm7, rfl⟩ := hm.resolve_left q
    obtain ⟨n, h60, en⟩ := hn
    have i8 : am_in (nI m) 8 := nI_in (by omega) (by omega)
    have cm : (nI m).toNatClampNeg = m := nI_clamp (by omega)
    (rw [if_neg q, if_neg q, h4, if_pos ⟨rfl, l4⟩, if_pos i8, if_pos i8]; (try simp only [cm]))
    by_cases q2 : C a4 m < C (tc_P x + 29) m
    · rw [if_pos q2, if_pos q2]
      have run : ∀ k l v, l + k = n → am_ev (d + 1) 31 26 [.ref 41, .int (nI m), .int at_, .ref a3, .ref a4, .int (nI l), v] [] (C, J, (tc_R x), tc_S, 289, 11479) = some (some (.int (optI (fnd (fun t => decide (ncC C x a3 m at_ t)) k l))), (C, J, (tc_R x), tc_S, 289, 11479)) := by
        intro k
        induction k with
        | zero =>
          intro l v hl
          refine (b31_26 d C J x (nI m) at_ a3 (some (.inl a4)) (nI l) v).trans ?_
          rw [en, if_pos (nI_le (by omega) (by omega))]; rfl
        | succ k ih =>
          intro l v hl
          have i60 : am_in (nI l) 60 := nI_in (by omega) (by omega)
          have hk := tt_k (k := l) (by omega)
          refine (b31_26 d C J x (nI m) at_ a3 (some (.inl a4)) (nI l) v).trans ?_
          have cl : (nI l).toNatClampNeg = l := nI_clamp (by omega)
          rw [en, if_neg (nI_ge (by omega) (by omega)), if_pos i60]
          simp only [cl, cm, nI_1]
          rw [if_pos hk, h3, if_pos ⟨rfl, l3⟩, if_pos i60]
          unfold fnd
          by_cases c1 : C a3 l = 0
          · rw [if_pos c1, if_pos i60, if_pos hk, if_pos i8]
            by_cases c2 : C (150 + 2 * l) 0 = C (tc_P x + 28) m
            · rw [if_pos c2]
              by_cases c3 : at_ - C (150 + 2 * l) 1 < C (tc_P x) 18
              · rw [if_pos c3, if_neg (by rw [decide_eq_true_eq]; exact fun w => w.2.2.1 c3)]; exact ih _ _ (by omega)
              · rw [if_neg c3]
                by_cases c4 : C (tc_P x) 19 < at_ - C (150 + 2 * l) 1
                · rw [if_pos c4, if_neg (by rw [decide_eq_true_eq]; exact fun w => w.2.2.2 c4)]; exact ih _ _ (by omega)
                · rw [if_neg c4, if_pos (decide_eq_true ⟨c1, c2, c3, c4⟩)]; rfl
            · rw [if_neg c2, if_neg (by rw [decide_eq_true_eq]; exact fun w => c2 w.2.1)]; exact ih _ _ (by omega)
          · rw [if_neg c1, if_neg (by rw [decide_eq_true_eq]; exact fun w => c1 w.1)]; exact ih _ _ (by omega)
      have e41 : (C 41 10).toNatClampNeg = n := by rw [en]; exact nI_clamp (by omega)
      rw [e41]
      exact run n 0 am_un (by omega)
    · rw [if_neg q2, if_neg q2]; rfl
section CUR
variable {x : Bool} {C M : tI} {J Jc : tJ}
/-- the model's: the tyre that a press would cure -/
abbrev ncM (M : tI) (x : Bool) (m : Nat) (t : Nat) : Prop := M 55 t = 0 ∧ M 54 t = M 24 (8 * xb x + m) ∧ M 32 (xb x) ≤ M 0 65 - M 56 t ∧ M 0 65 - M 56 t ≤ M 33 (xb x)
def nxM (M : tI) (x : Bool) (p : Nat) : Option Nat := if M 65 p = -1 then (if M 64 p = -1 then none else if M 67 (Int32.toNatClampNeg (M 64 p)) < M 25 (8 * xb x + Int32.toNatClampNeg (M 64 p)) then fnd (fun t => decide (ncM M x (Int32.toNatClampNeg (M 64 p)) t)) (Int32.toNatClampNeg (M 0 74)) 0 else none) else none
theorem Rl.pz (h : Rl x C M J) {t : Nat} (ht : t < Int32.toNatClampNeg (M 0 74)) : C (tc_P x) 18 = M 32 (xb x) ∧ C (tc_P x) 19 = M 33 (xb x) ∧ bd (M 32 (xb x)) 999 ∧ bd (M 33 (xb x)) 999 := by
  have g := (h.H.2.2.2.1 t ht).2.2.2.2.2.2.2.2.1
  have z := h.P.2.2.2.2.2.2.2.2.1 (Or.inr (by omega))
  exact ⟨z.2.2.1, z.2.2.2.1, z.2.2.2.2.2.2.2.1, z.2.2.2.2.2.2.2.2⟩
theorem Rl.nxE (h : Rl x C M J) {p : Nat} (hp : p < 4) (q : M 65 p = -1) : nxC C x 82 85 (C (270 + p) 0) (C 41 1) = nxM M x p := by
  have g := h.H.2.2.2.2.1.1 p hp
  unfold nxC nxM
  rw [if_pos q, g.1, h.hour, h.nt]
  by_cases q1 : M 64 p = -1
  · rw [if_pos q1, if_pos q1]
  · obtain ⟨b7, lt⟩ := g.2.2.2.1.resolve_left q1
    have l7 := b7.cl (by omega)
    have go := h.P.2.2.2.2.2.2.2.1.1 (Int32.toNatClampNeg (M 64 p)) lt
    have gm := h.H.2.2.2.2.2.1 (Int32.toNatClampNeg (M 64 p)) (by omega)
    rw [if_neg q1, if_neg q1, gm.1, go.2.1]
    by_cases q2 : M 67 (Int32.toNatClampNeg (M 64 p)) < M 25 (8 * xb x + Int32.toNatClampNeg (M 64 p))
    · rw [if_pos q2, if_pos q2]
      refine fnd_congr _ _ (fun t _ ht => ?_)
      have ht : t < Int32.toNatClampNeg (M 0 74) := by omega
      have gt := h.H.2.2.2.1 t ht
      obtain ⟨z1, z2, _⟩ := h.pz ht
      refine decide_eq_decide.mpr ?_
      unfold ncC ncM
      rw [gt.2.1, gt.1, go.1, gt.2.2.1, z1, z2, Int32.not_lt, Int32.not_lt]
    · rw [if_neg q2, if_neg q2]
theorem Rl.cbM0 (h : Rl x C M J) {p : Nat} (hp : p < 4) (d : Nat) : am_G (am_ev (d + 2)) 242 [.ref 0, .int (nI p)] (M, J, tm_R, tm_S, 77, 21637) = some (some (.int (optI (nxM M x p))), (M, J, tm_R, tm_S, 77, 21637)) := by
  have hx := xb1 x
  have g := h.H.2.2.2.2.1.1 p hp
  have i4 : am_in (nI p) 4 := nI_in hp (by omega)
  have cp : (nI p).toNatClampNeg = p := nI_clamp (by omega)
  have nt := h.ntB.cl (by omega)
  have et := h.ntB.eq (by omega)
  unfold nxM
  (rw [b242_0, if_pos i4, if_pos i4]; (try simp only [cp]))
  by_cases q : M 65 p = -1
  rotate_left
  · rw [if_neg q, if_neg q]; rfl
  rw [if_pos q, if_pos q]
  by_cases q1 : M 64 p = -1
  · rw [if_pos q1, if_pos q1]; rfl
  obtain ⟨b7, lt⟩ := g.2.2.2.1.resolve_left q1
  obtain ⟨m, hm, em⟩ := b7
  rw [em] at lt q1 ⊢
  ((try simp (disch := omega) only [nI_clamp] at lt ⊢))
  have i16 : am_in (nI (8 * xb x + m)) 16 := nI_in (by omega) (by omega)
  have c16 : (nI (8 * xb x + m)).toNatClampNeg = 8 * xb x + m := nI_clamp (by omega)
  (rw [if_neg q1, if_neg q1, if_pos (nI_in (by omega) (by omega)), m_mould8, am_call_s, am_toL, b242_37, h.ix8, if_pos i16]; (try simp only [c16]))
  by_cases q2 : M 67 m < M 25 (8 * xb x + m)
  rotate_left
  · rw [if_neg q2, if_neg q2]; rfl
  rw [if_pos q2, if_pos q2]
  have run : ∀ k l, l + k = Int32.toNatClampNeg (M 0 74) → am_ev (d + 2) 242 45 [.ref 0, .int (nI p), .int (nI m), .int (nI l)] [] (M, J, tm_R, tm_S, 77, 21637) = some (some (.int (optI (fnd (fun t => decide (ncM M x m t)) k l))), (M, J, tm_R, tm_S, 77, 21637)) := by
    intro k
    induction k with
    | zero =>
      intro l hl
      rw [b242_45, et, if_pos (nI_le (by omega) (by omega))]; rfl
    | succ k ih =>
      intro l hl
      have i60 : am_in (nI l) 60 := nI_in (by omega) (by omega)
      have cl : (nI l).toNatClampNeg = l := nI_clamp (by omega)
      rw [b242_45, et, if_neg (nI_ge (by omega) (by omega)), if_pos i60]
      simp only [cl, nI_1]
      unfold fnd
      by_cases c1 : M 55 l = 0
      · (rw [if_pos c1, if_pos i60, m_mould8, am_call_s, am_toL, b242_77, h.ix8, if_pos i16]; (try simp only [c16]))
        by_cases c2 : M 54 l = M 24 (8 * xb x + m)
        · (rw [if_pos c2, if_pos i60, if_pos h.inB, if_pos h.inB]; (try simp only [h.cB]))
          simp only [cl]
          rw [m_is, am_call_s, am_toL, b242_113, am_bif, nI_1]
          by_cases c3 : M 32 (xb x) ≤ M 0 65 - M 56 l ∧ M 0 65 - M 56 l ≤ M 33 (xb x)
          · rw [if_pos c3, if_pos (decide_eq_true ⟨c1, c2, c3⟩)]; rfl
          · rw [if_neg c3, if_neg (by rw [decide_eq_true_eq]; exact fun w => c3 w.2.2)]; exact ih _ (by omega)
        · rw [if_neg c2, if_neg (by rw [decide_eq_true_eq]; exact fun w => c2 w.2.1), nI_1]; exact ih _ (by omega)
      · rw [if_neg c1, if_neg (by rw [decide_eq_true_eq]; exact fun w => c1 w.1)]; exact ih _ (by omega)
  exact run _ 0 (by omega)
/-- what is known of a tyre that is taken -/
theorem Rl.nxS (h : Rl x C M J) {p t : Nat} (hp : p < 4) (e : nxM M x p = some t) : M 65 p = -1 ∧ ∃ m, m ≤ 7 ∧ m < Int32.toNatClampNeg (M 22 (xb x)) ∧ M 64 p = nI m ∧ M 67 m < M 25 (8 * xb x + m) ∧ t < Int32.toNatClampNeg (M 0 74) ∧ M 55 t = 0 ∧ M 54 t = M 24 (8 * xb x + m) := by
  have g := h.H.2.2.2.2.1.1 p hp
  unfold nxM at e
  by_cases q : M 65 p = -1
  rotate_left
  · rw [if_neg q] at e; cases e
  rw [if_pos q] at e
  by_cases q1 : M 64 p = -1
  · rw [if_pos q1] at e; cases e
  obtain ⟨b7, lt⟩ := g.2.2.2.1.resolve_left q1
  obtain ⟨m, hm, em⟩ := b7
  rw [em] at lt q1 e
  ((try simp (disch := omega) only [nI_clamp] at lt))
  ((try simp (disch := omega) only [nI_clamp] at e))
  rw [if_neg q1] at e
  by_cases q2 : M 67 m < M 25 (8 * xb x + m)
  rotate_left
  · rw [if_neg q2] at e; cases e
  rw [if_pos q2] at e
  obtain ⟨_, h2, h3, _⟩ := fnd_some _ _ _ e
  have h3 := of_decide_eq_true h3
  exact ⟨q, m, hm, lt, em, q2, by omega, h3.1, h3.2.1⟩
def curM (M : tI) (x : Bool) (p t m : Nat) : tI := am_u2 (am_u2 (am_u2 (am_u2 (am_u2 (am_u2 (am_u2 M 59 t (M 67 m)) 67 m (M 67 m + 1)) 55 t 1) 60 t (nI p)) 61 t (M 0 65 - M 56 t)) 65 p (nI t)) 66 p (M 0 65 + M 13 (6 * xb x + Int32.toNatClampNeg (M 54 t)))
def curC (C : tI) (x : Bool) (p t m : Nat) : tI := am_u2 (am_u2 (am_u2 (am_u2 (am_u2 (am_u2 (am_u2 C (150 + 2 * t) 4 (C 85 m)) (150 + 2 * t) 5 (nI p)) (150 + 2 * t) 6 (C 41 1)) 82 t 1) 85 m (C 85 m + 1)) (270 + p) 1 (nI t)) (270 + p) 2 (C 41 1 + C (tc_P x + 13) (Int32.toNatClampNeg (C (150 + 2 * t) 0)))
theorem Rl.cgM (h : Rl x C M J) {p : Nat} (hp : p < 4) (d : Nat) : am_G (am_ev (d + 3)) 243 [.ref 0, .int (nI p)] (M, J, tm_R, tm_S, 77, 21637) = some (some (.int (optI (nxM M x p))), (match nxM M x p with
    | some t => curM M x p t (Int32.toNatClampNeg (M 64 p))
    | none => M, J, tm_R, tm_S, 77, 21637)) := by
  have hx := xb1 x
  have b11 := h.n11.2.cl (by omega)
  have nt := h.ntB.cl (by omega)
  rw [b243_0, h.cbM0 hp, am_call_s, am_toL, b243_5]
  cases e : nxM M x p with
  | none => rw [if_pos (show optI none = -1 from rfl)]; rfl
  | some t =>
    obtain ⟨q, m, hm, lt, em, q2, htn, s0, sz⟩ := h.nxS hp e
    have gt := h.H.2.2.2.1 t htn
    have i4 : am_in (nI p) 4 := nI_in hp (by omega)
    have i60 : am_in (nI t) 60 := nI_in (by omega) (by omega)
    have i8 : am_in (nI m) 8 := nI_in (by omega) (by omega)
    have cp : (nI p).toNatClampNeg = p := nI_clamp (by omega)
    have ct : (nI t).toNatClampNeg = t := nI_clamp (by omega)
    have cm : (nI m).toNatClampNeg = m := nI_clamp (by omega)
    obtain ⟨z, hz, ez⟩ := gt.2.2.2.2.2.2.2.1
    have oe : optI (some t) = nI t := rfl
    rw [oe, if_neg (nI_ne (by omega)), if_pos i4]
    simp only [cp, ct, em, cm]
    rw [if_pos i8, if_pos i60, if_pos i8, if_pos i8, if_pos i60, if_pos i60, if_pos i60, if_pos i60, if_pos i4, if_pos i60, m_size6, am_call_s, am_toL, b243_103]
    have e12 : am_u2 (am_u2 (am_u2 (am_u2 (am_u2 (am_u2 M 59 t (M 67 m)) 67 m (M 67 m + 1)) 55 t 1) 60 t (nI p)) 61 t (M 0 65 - M 56 t)) 65 p (nI t) 0 12 = M 0 12 := by
      simp (disch := omega) only [u2_c]
    have e13 : ∀ j, am_u2 (am_u2 (am_u2 (am_u2 (am_u2 (am_u2 M 59 t (M 67 m)) 67 m (M 67 m + 1)) 55 t 1) 60 t (nI p)) 61 t (M 0 65 - M 56 t)) 65 p (nI t) 13 j = M 13 j := by
      intro j
      simp (disch := omega) only [u2_c]
    rw [e12, ez, h.ix6, if_pos (nI_in (by omega) (by omega)), if_pos i4]
    simp (disch := omega) only [nI_clamp, e13]
    unfold curM
    (rw [ez]; (try simp (disch := omega) only [nI_clamp]))
theorem c_39 (d : Nat) (C : tI) (J : tJ) (x : Bool) (v3 v4 : Value) {p t m z : Nat} (hp : p < 4) (ht : t < 60) (hm : m < 8) (hz : z < 6) (cm0 : C (270 + p) 0 = nI m) (gs : C (150 + 2 * t) 0 = nI z) : am_ev (d + 2) 32 39 [.ref 41, .int (nI p), .ref (270 + p), v3, v4] [.int (nI t)] (C, J, (tc_R x), tc_S, 289, 11479) = some (some (.int (nI t)), (curC C x p t m, J, (tc_R x), tc_S, 289, 11479)) := by
  have hx := tc_P4 x
  have i60 : am_in (nI t) 60 := nI_in (by omega) (by omega)
  have i8 : am_in (nI m) 8 := nI_in (by omega) (by omega)
  have ct : (nI t).toNatClampNeg = t := nI_clamp (by omega)
  have cm : (nI m).toNatClampNeg = m := nI_clamp (by omega)
  have htk := tt_k (k := t) (by omega)
  have hk := tp_k hp
  have n1 : 270 + p ≠ 150 + 2 * t := by omega
  have n2 : 270 + p ≠ 82 := by omega
  have n3 : 41 ≠ 150 + 2 * t := by omega
  have n4 : 85 ≠ 150 + 2 * t := by omega
  have n5 : 85 ≠ 82 := by omega
  have u : ∀ (D : tI) (k j a b : Nat) (v : Int32), a ≠ k → am_u2 D k j v a b = D a b := fun D k j a b v q => u2_c q
  rw [b32_39, if_neg (nI_ne (by omega)), if_pos i60]
  simp only [ct]
  rw [if_pos hk, cm0, if_pos i8, if_pos htk, if_pos htk, if_pos htk, if_pos i60, if_pos hk]
  simp only [u _ _ _ _ _ _ n1, u _ _ _ _ _ _ n2, u _ _ _ _ _ _ n3, u _ _ _ _ _ _ n4, u _ _ _ _ _ _ n5, cm0, cm]
  rw [if_pos i8, if_pos i8, if_pos hk, b33_0, if_pos i60]
  have m1 : 150 + 2 * t ≠ 270 + p := by omega
  have m2 : 150 + 2 * t ≠ 85 := by omega
  have m3 : 150 + 2 * t ≠ 82 := by omega
  have m4 : tc_P x + 13 ≠ 270 + p := by omega
  have m5 : tc_P x + 13 ≠ 85 := by omega
  have m6 : tc_P x + 13 ≠ 82 := by omega
  have m7 : tc_P x + 13 ≠ 150 + 2 * t := by omega
  have u6 : ∀ (D : tI) (k j : Nat) (v w : Int32), am_u2 (am_u2 D k 5 v) k 6 w k 0 = D k 0 := fun D k j v w => by rw [u2_p (by omega), u2_p (by omega)]
  have v0 : ∀ (D : tI) (k : Nat) (v1 v2 v3 : Int32), am_u2 (am_u2 (am_u2 D k 4 v1) k 5 v2) k 6 v3 k 0 = D k 0 := fun D k v1 v2 v3 => by rw [u2_p (by omega), u2_p (by omega), u2_p (by omega)]
  have v6 : ∀ (D : tI) (k : Nat) (v3 : Int32), am_u2 D k 6 v3 k 6 = v3 := fun D k v3 => u2_s
  simp only [ct, u _ _ _ _ _ _ m1, u _ _ _ _ _ _ m2, u _ _ _ _ _ _ m3, u _ _ _ _ _ _ m4, u _ _ _ _ _ _ m5, u _ _ _ _ _ _ m6, u _ _ _ _ _ _ m7, v0, v6, gs]
  rw [if_pos htk, if_pos i60, if_pos htk, if_pos (nI_in hz (by omega)), am_call_s, am_toL, b32_115, if_pos hk]
  unfold curC
  rw [gs]
theorem Rl.scC (h : Rl x C M J) {p : Nat} (hp : p < 4) (d : Nat) : am_G (am_ev (d + 2)) 32 [.ref 41, .int (nI p)] (C, Jc, (tc_R x), tc_S, 289, 11479) = some (some (.int (optI (nxM M x p))), (match nxM M x p with
    | some t => curC C x p t (Int32.toNatClampNeg (M 64 p))
    | none => C, Jc, (tc_R x), tc_S, 289, 11479)) := by
  have hx := tc_P4 x
  have b11 := h.n11.2.cl (by omega)
  have nt := h.ntB.cl (by omega)
  have g := h.H.2.2.2.2.1.1 p hp
  have i4 : am_in (nI p) 4 := nI_in hp (by omega)
  have cp : (nI p).toNatClampNeg = p := nI_clamp (by omega)
  have hk := tp_k hp
  (rw [b32_0, if_pos i4]; (try simp only [cp]); rw [if_pos hk, g.2.1])
  by_cases q : M 65 p = -1
  rotate_left
  · have e : nxM M x p = none := by unfold nxM; rw [if_neg q]
    rw [if_neg q, b32_39, if_pos rfl, e]; rfl
  rw [if_pos q, if_pos hk, c_next _ C Jc x (by decide +kernel) (by omega) (by decide +kernel) (by omega) (by rw [g.1]; exact g.2.2.2.1.imp id And.left) (by rw [h.nt]; exact h.ntB), h.nxE hp q, am_call_s, am_toL, b32_35]
  cases e : nxM M x p with
  | none => rw [b32_39, if_pos (show optI none = -1 from rfl)]; rfl
  | some t =>
    obtain ⟨_, m, hm, lt, em, q2, htn, s0, sz⟩ := h.nxS hp e
    have gt := h.H.2.2.2.1 t htn
    have i60 : am_in (nI t) 60 := nI_in (by omega) (by omega)
    have i8 : am_in (nI m) 8 := nI_in (by omega) (by omega)
    have ct : (nI t).toNatClampNeg = t := nI_clamp (by omega)
    have cm : (nI m).toNatClampNeg = m := nI_clamp (by omega)
    have htk := tt_k (k := t) (by omega)
    obtain ⟨z, hz, ez⟩ := gt.2.2.2.2.2.2.2.1
    have oe : optI (some t) = nI t := rfl
    have cm0 : C (270 + p) 0 = nI m := g.1.trans em
    have gs : C (150 + 2 * t) 0 = nI z := gt.1.trans ez
    (rw [oe, c_39 d C Jc x am_un am_un hp (by omega) (by omega) (show z < 6 by omega) cm0 gs, em]; (try simp (disch := omega) only [nI_clamp]))
end CUR
