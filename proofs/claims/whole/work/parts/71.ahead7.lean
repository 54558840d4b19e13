/-! kept, when -/
section KW
variable {x : Bool} {C M : tI} {J Jc : tJ}
def cbF (M : tI) (v : Int32) (hh t : Nat) : Nat := if M 54 t = v ∧ M 75 t ≠ -1 ∧ ¬ nI hh < M 75 t then 1 else 0
theorem cbF_1 (M : tI) (v : Int32) (hh : Nat) (n : Nat) : nsm (cbF M v hh) n ≤ n := by
  have := nsm_b (f := cbF M v hh) (c := 1) n (fun t _ => by unfold cbF; split <;> omega)
  omega
def AhR (C M : tI) : Prop := ∀ t, t < Int32.toNatClampNeg (M 0 74) → (M 75 t = C 279 t ∧ (C 279 t = -1 ∨ bd (C 279 t) 9999)) ∨ (M 75 t = -1 ∧ bd (C 279 t) 10098 ∧ 9999 < Int32.toNatClampNeg (C 279 t))
theorem Rl.cyM (h : Rl x C M J) (v : Int32) (hh d : Nat) : am_G (am_ev (d + 1)) 270 [.ref 0, .int v, .int (nI hh)] (M, J, tm_R, tm_S, 77, 21637) = some (some (.int (nI (nsm (cbF M v hh) (Int32.toNatClampNeg (M 0 74))))), (M, J, tm_R, tm_S, 77, 21637)) := by
  have n74 := h.n74
  have et := h.ntB.eq (by omega)
  have run : ∀ k, k ≤ Int32.toNatClampNeg (M 0 74) → am_ev (d + 1) 270 5 [.ref 0, .int v, .int (nI hh), .int (nI 0), .int (nI 0)] [] (M, J, tm_R, tm_S, 77, 21637) = am_ev (d + 1) 270 5 [.ref 0, .int v, .int (nI hh), .int (nI (nsm (cbF M v hh) k)), .int (nI k)] [] (M, J, tm_R, tm_S, 77, 21637) := by
    intro k
    induction k with
    | zero => intro _; rfl
    | succ k ih =>
      intro hk
      have i60 : am_in (nI k) 60 := nI_in (by omega) (by omega)
      have ck : (nI k).toNatClampNeg = k := nI_clamp (by omega)
      have gl : ¬ M 0 74 ≤ nI k := by rw [et]; exact nI_ge (by omega) (by omega)
      have z0 : ∀ a : Int32, a + 0 = a := Int32.add_zero
      rw [ih (by omega), b270_5, if_neg gl, if_pos i60]
      simp only [ck, nI_1]
      rw [z0, nsm_s]
      by_cases q1 : M 54 k = v
      · rw [if_pos q1, if_pos i60]
        by_cases q2 : M 75 k = -1
        · have e0 : cbF M v hh k = 0 := if_neg (fun w => w.2.1 q2)
          rw [if_pos q2, e0]; rfl
        · rw [if_neg q2, if_pos i60]
          by_cases q3 : nI hh < M 75 k
          · have e0 : cbF M v hh k = 0 := if_neg (fun w => w.2.2 q3)
            rw [if_pos q3, e0]; rfl
          · have e0 : cbF M v hh k = 1 := if_pos ⟨q1, q2, q3⟩
            rw [if_neg q3, e0]
      · have e0 : cbF M v hh k = 0 := if_neg (fun w => q1 w.1)
        rw [if_neg q1, e0]; rfl
  rw [b270_0]
  refine Eq.trans (run _ (Nat.le_refl _)) ?_
  have gl : M 0 74 ≤ nI (Int32.toNatClampNeg (M 0 74)) := by rw [← et]; exact Int32.le_refl _
  rw [b270_5, if_pos gl]
theorem Rl.cyC (h : Rl x C M J) (ah : AhR C M) (v : Int32) {hh : Nat} (h9 : hh ≤ 9999) (d : Nat) : am_G (am_ev (d + 1)) 5 [.ref 274, .ref 41, .int v, .int (nI hh)] (C, Jc, (tc_R x), tc_S, 289, 11479) = some (some (.int (nI (nsm (cbF M v hh) (Int32.toNatClampNeg (M 0 74))))), (C, Jc, (tc_R x), tc_S, 289, 11479)) := by
  have n74 := h.n74
  have et := h.ntB.eq (by omega)
  have run : ∀ k, k ≤ Int32.toNatClampNeg (M 0 74) → am_ev (d + 1) 5 6 [.ref 274, .ref 41, .int v, .int (nI hh), .int (nI 0), .int (nI 0)] [] (C, Jc, (tc_R x), tc_S, 289, 11479) = am_ev (d + 1) 5 6 [.ref 274, .ref 41, .int v, .int (nI hh), .int (nI (nsm (cbF M v hh) k)), .int (nI k)] [] (C, Jc, (tc_R x), tc_S, 289, 11479) := by
    intro k
    induction k with
    | zero => intro _; rfl
    | succ k ih =>
      intro hk
      have i60 : am_in (nI k) 60 := nI_in (by omega) (by omega)
      have ck : (nI k).toNatClampNeg = k := nI_clamp (by omega)
      have gl : ¬ M 0 74 ≤ nI k := by rw [et]; exact nI_ge (by omega) (by omega)
      have gt := h.H.2.2.2.1 k (by omega)
      rw [ih (by omega), b5_6, h.nt, if_neg gl, if_pos i60]
      simp only [ck, nI_1]
      rw [if_pos (tt_k (k := k) (by omega)), gt.1, nsm_s]
      by_cases q1 : M 54 k = v
      · rw [if_pos q1, if_pos i60]
        rcases ah k (by omega) with ⟨y1, y2⟩ | ⟨y1, y2, y3⟩
        · rw [← y1]
          by_cases q2 : M 75 k = -1
          · have e0 : cbF M v hh k = 0 := if_neg (fun w => w.2.1 q2)
            rw [if_pos q2, e0]; rfl
          · rw [if_neg q2, if_pos i60]
            by_cases q3 : nI hh < M 75 k
            · have e0 : cbF M v hh k = 0 := if_neg (fun w => w.2.2 q3)
              rw [if_pos q3, e0]; rfl
            · have e0 : cbF M v hh k = 1 := if_pos ⟨q1, q2, q3⟩
              rw [if_neg q3, e0]
        · have e0 : cbF M v hh k = 0 := if_neg (fun w => w.2.1 y1)
          obtain ⟨c, hc, ec⟩ := y2
          (rw [ec] at y3; (try simp (disch := omega) only [nI_clamp] at y3))
          rw [ec, if_neg (nI_ne (by omega)), if_pos i60, if_pos (nI_lt (by omega) (by omega)), e0]; rfl
      · have e0 : cbF M v hh k = 0 := if_neg (fun w => q1 w.1)
        rw [if_neg q1, e0]; rfl
  rw [b5_0]
  refine Eq.trans (run _ (Nat.le_refl _)) ?_
  have gl : M 0 74 ≤ nI (Int32.toNatClampNeg (M 0 74)) := by rw [← et]; exact Int32.le_refl _
  rw [b5_6, h.nt, if_pos gl]
theorem Rl.auC (h : Rl x C M J) {k : Nat} (hk : k < Int32.toNatClampNeg (M 26 (xb x))) (d : Nat) : am_G (am_ev (d + 1)) 64 [.ref (tc_P x), .int (nI k)] (C, Jc, (tc_R x), tc_S, 289, 11479) = some (some (.int (asS M x (M 27 (8 * xb x + k)) (k + 1))), (C, Jc, (tc_R x), tc_S, 289, 11479)) := by
  have b26 := h.Pc.2.2.2.2.2.1.2.cl (by omega)
  have po := h.P.2.2.2.2.2.2.2.1.2
  have i8k : am_in (nI k) 8 := nI_in (by omega) (by omega)
  have ck : (nI k).toNatClampNeg = k := nI_clamp (by omega)
  have run : ∀ j, j ≤ k + 1 → am_ev (d + 1) 64 4 [.ref (tc_P x), .int (nI k), .int 0, .int (nI 0)] [] (C, Jc, (tc_R x), tc_S, 289, 11479) = am_ev (d + 1) 64 4 [.ref (tc_P x), .int (nI k), .int (asS M x (M 27 (8 * xb x + k)) j), .int (nI j)] [] (C, Jc, (tc_R x), tc_S, 289, 11479) := by
    intro j
    induction j with
    | zero => intro _; rfl
    | succ j ih =>
      intro hj
      have i8 : am_in (nI j) 8 := nI_in (by omega) (by omega)
      have cj : (nI j).toNatClampNeg = j := nI_clamp (by omega)
      have es : asS M x (M 27 (8 * xb x + k)) (j + 1) = asS M x (M 27 (8 * xb x + k)) j + (if M 27 (8 * xb x + j) = M 27 (8 * xb x + k) then M 28 (8 * xb x + j) else 0) := rfl
      rw [ih (by omega), b64_4, if_neg (nI_nlt (by omega) (by omega)), if_pos i8, if_pos i8k]
      simp only [ck, cj, nI_1]
      rw [(po j (by omega)).1, (po k hk).1, (po j (by omega)).2.1, es]
      by_cases q : M 27 (8 * xb x + j) = M 27 (8 * xb x + k)
      · rw [if_pos q, if_pos q, if_pos i8]
      · rw [if_neg q, if_neg q, Int32.add_zero]
  rw [b64_0]
  refine Eq.trans (run _ (Nat.le_refl _)) ?_
  rw [b64_4, if_pos (nI_lt (by omega) (by omega))]
theorem Rl.od (h : Rl x C M J) (v : Int32) (d e : Nat) :
    (am_G (am_ev (d + 1)) 56 [.ref (tc_P x), .int 5, .int v] (C, Jc, (tc_R x), tc_S, 289, 11479) = some (some (.int 0), (C, Jc, (tc_R x), tc_S, 289, 11479)) ∧ am_G (am_ev (e + 2)) 271 [.ref 0, .int v] (M, J, tm_R, tm_S, 77, 21637) = some (some (.int 0), (M, J, tm_R, tm_S, 77, 21637))) ∨
    ∃ k, k < Int32.toNatClampNeg (M 26 (xb x)) ∧ v = nI k ∧ k < 8 ∧ am_G (am_ev (d + 1)) 56 [.ref (tc_P x), .int 5, .int v] (C, Jc, (tc_R x), tc_S, 289, 11479) = some (some (.int 1), (C, Jc, (tc_R x), tc_S, 289, 11479)) ∧ am_G (am_ev (e + 2)) 271 [.ref 0, .int v] (M, J, tm_R, tm_S, 77, 21637) = some (some (.int 1), (M, J, tm_R, tm_S, 77, 21637)) := by
  obtain ⟨h1, h2⟩ := h.Pc.2.2.2.2.2.1
  have hc := h2.cl (by omega)
  have he := h2.eq (by omega)
  rw [he] at h1
  rcases i_cases v (n := Int32.toNatClampNeg (M 26 (xb x))) (by omega) with w | ⟨k, hk, rfl⟩
  · refine Or.inl ⟨c_told0 (q := 5) d C Jc x x (by omega) h1 w, ?_⟩
    (rw [b271_0, if_pos h.inB]; (try simp only [h.cB]); rw [he, m_is0 _ _ _ (nin (by omega) w), am_call_s, am_toL, b271_16]); rfl
  · refine Or.inr ⟨k, hk, rfl, by omega, c_told1 (q := 5) d C Jc x x (by omega) h1 (by omega) hk, ?_⟩
    (rw [b271_0, if_pos h.inB]; (try simp only [h.cB]); rw [he, m_is1 _ _ _ ((is_in (nI k) (n := Int32.toNatClampNeg (M 26 (xb x))) (by omega)).mpr ⟨k, hk, rfl⟩), am_call_s, am_toL, b271_16]); rfl
theorem k_kept (h : Rl x C M J) (a : Int32) : Lk 143 272 [.int a] x C M Jc J := by
  rcases h.od (Jc := Jc) a 98 97 with ⟨e1, e2⟩ | ⟨k, hk, rfl, h8, e1, e2⟩
  · exact ⟨-1, x, C, M, J, by rw [b143_0, e1, am_call_s, am_toL, b143_12, if_pos rfl], by rw [b272_0, e2, am_call_s, am_toL, b272_5, if_pos rfl], h⟩
  · obtain ⟨C', M', f1, f2, f3, f4, ah, f6⟩ := h.fsee (Jc := Jc) 96 95
    have hx := xb1 x
    have hk' : k < Int32.toNatClampNeg (M' 26 (xb x)) := by rw [f6 26 _ (by omega)]; exact hk
    have i8 : am_in (nI k) 8 := nI_in h8 (by omega)
    have ck : (nI k).toNatClampNeg = k := nI_clamp (by omega)
    have po := f3.P.2.2.2.2.2.2.2.1.2 k hk'
    obtain ⟨dh, hd, ed⟩ := po.2.2.2.2.2.2.2
    have i16 : am_in (nI (8 * xb x + k)) 16 := nI_in (by omega) (by omega)
    have c16 : (nI (8 * xb x + k)).toNatClampNeg = 8 * xb x + k := nI_clamp (by omega)
    have mC : am_G (am_ev 100) 143 [.ref 0, .int (nI k)] (C, Jc, (tc_R x), tc_S, 289, 11479) = some (some (.int (if nI (nsm (cbF M' (M' 27 (8 * xb x + k)) dh) (Int32.toNatClampNeg (M' 0 74))) < asS M' x (M' 27 (8 * xb x + k)) (k + 1) then 0 else 1)), (C', Jc, (tc_R x), tc_S, 289, 11479)) := by
      rw [b143_0, e1, am_call_s, am_toL, b143_12, if_neg (by decide : ¬ (1 : Int32) = 0), f1, am_call_s, am_toN, b143_28, if_pos i8, if_pos i8]
      simp only [ck]
      rw [po.1, po.2.2.1, ed, f3.cyC ah _ hd, am_call_s, am_toL, b143_67, f3.auC hk', am_call_s, am_toL, b143_78]
      split <;> rfl
    have mM : am_G (am_ev 100) 272 [.ref 0, .int (nI k)] (M, J, tm_R, tm_S, 77, 21637) = some (some (.int (if nI (nsm (cbF M' (M' 27 (8 * xb x + k)) dh) (Int32.toNatClampNeg (M' 0 74))) < asS M' x (M' 27 (8 * xb x + k)) (k + 1) then 0 else 1)), (M', J, tm_R, tm_S, 77, 21637)) := by
      rw [b272_0, e2, am_call_s, am_toL, b272_5, if_neg (by decide : ¬ (1 : Int32) = 0), f2, am_call_s, am_toN, b272_14, m_order8, am_call_s, am_toL, b272_23, f3.ix8, if_pos i16, m_order8, am_call_s, am_toL, b272_36, f3.ix8, if_pos i16]
      simp only [c16]
      rw [ed, f3.cyM, am_call_s, am_toL, b272_40, nI_1, f3.asM _ (by omega), am_call_s, am_toL, b272_48]
      split <;> rfl
    exact ⟨_, x, C', M', J, mC, mM, f3⟩
/-! when -/
def pW (M : tI) (v A : Int32) (n hh : Nat) : Bool := decide (¬ nI (nsm (cbF M v hh) n) < A)
theorem AhR.ex (ah : AhR C M) {v A : Int32} {w : Nat} (hw : 0 < w) (w9 : w ≤ 9999) (p0 : pW M v A (Int32.toNatClampNeg (M 0 74)) (w - 1) = false) (p1 : pW M v A (Int32.toNatClampNeg (M 0 74)) w = true) : ∃ t, t < Int32.toNatClampNeg (M 0 74) ∧ C 279 t = nI w := by
  refine Classical.byContradiction (fun no => ?_)
  have e : nsm (cbF M v w) (Int32.toNatClampNeg (M 0 74)) = nsm (cbF M v (w - 1)) (Int32.toNatClampNeg (M 0 74)) := by
    have eq : ∀ t, t < Int32.toNatClampNeg (M 0 74) → cbF M v w t = cbF M v (w - 1) t := by
      intro t ht
      have ic : (M 54 t = v ∧ M 75 t ≠ -1 ∧ ¬ nI w < M 75 t) ↔ (M 54 t = v ∧ M 75 t ≠ -1 ∧ ¬ nI (w - 1) < M 75 t) := by
        rcases ah t ht with ⟨y1, y2⟩ | ⟨y1, _, _⟩
        · rcases y2 with y2 | ⟨c, hc, ec⟩
          · rw [y1]; exact ⟨fun z => absurd y2 z.2.1, fun z => absurd y2 z.2.1⟩
          · have ne : c ≠ w := fun z => no ⟨t, ht, by rw [ec, z]⟩
            rw [y1, ec, nI_ltI (by omega) (by omega), nI_ltI (by omega) (by omega)]
            exact and_congr Iff.rfl (and_congr Iff.rfl (by omega))
        · exact ⟨fun z => absurd y1 z.2.1, fun z => absurd y1 z.2.1⟩
      unfold cbF
      by_cases q : M 54 t = v ∧ M 75 t ≠ -1 ∧ ¬ nI w < M 75 t
      · rw [if_pos q, if_pos (ic.mp q)]
      · rw [if_neg q, if_neg (fun z => q (ic.mpr z))]
    exact Nat.le_antisymm (nsm_le _ (fun t ht => Nat.le_of_eq (eq t ht))) (nsm_le _ (fun t ht => Nat.le_of_eq (eq t ht).symm))
  unfold pW at p0 p1
  rw [e, p0] at p1
  exact absurd p1 (by decide)
theorem Rl.whM (h : Rl x C M J) (v : Int32) {k : Nat} (hk : k < 8) : ∀ n hh, hh + n = 10000 → am_ev 100 273 30 [.ref 0, .int (nI k), .int v, .int (nI hh)] [] (M, J, tm_R, tm_S, 77, 21637) = some (some (.int (optI (fnd (pW M v (asS M x v (k + 1)) (Int32.toNatClampNeg (M 0 74))) n hh))), (M, J, tm_R, tm_S, 77, 21637)) := by
  intro n
  induction n with
  | zero =>
    intro hh e
    rw [b273_30, if_pos (show (9999 : Int32) < nI hh from nI_lt (a := 9999) (by omega) (by omega))]; rfl
  | succ n ih =>
    intro hh e
    rw [b273_30, if_neg (show ¬ (9999 : Int32) < nI hh from nI_nlt (a := 9999) (by omega) (by omega)), h.cyM, am_call_s, am_toL, b273_43, nI_1, h.asM _ (by omega), am_call_s, am_toL, b273_51, nI_1]
    unfold fnd
    by_cases q : nI (nsm (cbF M v hh) (Int32.toNatClampNeg (M 0 74))) < asS M x v (k + 1)
    · rw [if_pos q, if_neg (by unfold pW; rw [decide_eq_true_eq]; exact fun w => w q)]
      exact ih (hh + 1) (by omega)
    · rw [if_neg q, if_pos (by unfold pW; rw [decide_eq_true_eq]; exact q)]; rfl
theorem Rl.whC (h : Rl x C M J) (ah : AhR C M) (v A : Int32) {H : Nat} (eH : M 0 65 = nI H) (h9 : H ≤ 9999) (d : Nat) : am_G (am_ev (d + 2)) 6 [.ref 274, .ref 41, .int v, .int A] (C, Jc, (tc_R x), tc_S, 289, 11479) = some (some (.int (optI (fnd (pW M v A (Int32.toNatClampNeg (M 0 74))) (10000 - H) H))), (C, Jc, (tc_R x), tc_S, 289, 11479)) := by
  have n74 := h.n74
  have et := h.ntB.eq (by omega)
  have e41 : C 41 1 = nI H := h.hour.trans eH
  generalize hN : Int32.toNatClampNeg (M 0 74) = nt at *
  have fs : fnd (pW M v A nt) (10000 - H) H = if pW M v A nt H = true then some H else fnd (pW M v A nt) (9999 - H) (H + 1) := by
    rw [show 10000 - H = 9999 - H + 1 by omega]; rfl
  rw [b6_0, e41, h.cyC ah _ h9, am_call_s, am_toL, b6_10, fs, hN]
  by_cases q : nI (nsm (cbF M v H) nt) < A
  rotate_left
  · rw [if_neg q, if_pos (by unfold pW; rw [decide_eq_true_eq]; exact q), e41]; rfl
  have pH : pW M v A nt H = false := by unfold pW; rw [decide_eq_false_iff_not]; exact fun w => w q
  rw [if_pos q, if_neg (by rw [pH]; decide)]
  have run : ∀ k, k ≤ nt → ∃ (B : Option Nat) (v6 : Value), am_ev (d + 2) 6 25 [.ref 274, .ref 41, .int v, .int A, .int (-1), .int (nI 0), am_un] [] (C, Jc, (tc_R x), tc_S, 289, 11479) = am_ev (d + 2) 6 25 [.ref 274, .ref 41, .int v, .int A, .int (optI B), .int (nI k), v6] [] (C, Jc, (tc_R x), tc_S, 289, 11479) ∧ (∀ w, B = some w → H < w ∧ w ≤ 9999 ∧ pW M v A nt w = true) ∧ ∀ t, t < k → ∀ c, C 279 t = nI c → H < c → c ≤ 9999 → (∃ w, B = some w ∧ w ≤ c) ∨ pW M v A nt c = false := by
    intro k
    induction k with
    | zero => intro _; exact ⟨none, _, rfl, (fun w hw => by cases hw), fun t ht => by omega⟩
    | succ k ih =>
      intro hk
      obtain ⟨B, v6, a1, a2, a3⟩ := ih (by omega)
      have i60 : am_in (nI k) 60 := nI_in (by omega) (by omega)
      have ck : (nI k).toNatClampNeg = k := nI_clamp (by omega)
      have gl : ¬ M 0 74 ≤ nI k := by rw [et]; exact nI_ge (by omega) (by omega)
      have st := b6_25 (d + 1) C Jc x v A (optI B) (nI k) v6
      rw [h.nt, if_neg gl, if_pos i60] at st
      simp only [ck, nI_1] at st
      rw [e41] at st
      have skip : (∀ c, C 279 k = nI c → H < c → c ≤ 9999 → (∃ w, B = some w ∧ w ≤ c) ∨ pW M v A nt c = false) → ∀ t, t < k + 1 → ∀ c, C 279 t = nI c → H < c → c ≤ 9999 → (∃ w, B = some w ∧ w ≤ c) ∨ pW M v A nt c = false := by
        intro hs t ht
        by_cases z : t = k
        · subst z; exact hs
        · exact a3 t (by omega)
      have z279 : C 279 k = -1 ∨ ∃ c, c ≤ 10098 ∧ C 279 k = nI c := by
        rcases ah k (by omega) with ⟨_, y2⟩ | ⟨_, y2, _⟩
        · rcases y2 with y2 | ⟨c, hc, ec⟩
          · exact Or.inl y2
          · exact Or.inr ⟨c, by omega, ec⟩
        · exact Or.inr y2
      rcases z279 with z | ⟨c, hc, ec⟩
      · have l : (-1 : Int32) ≤ nI H := by
          rw [i_le, nI_toInt (by omega)]
          have : (-1 : Int32).toInt = -1 := rfl
          omega
        rw [z, if_pos l] at st
        exact ⟨B, _, a1.trans st, a2, skip (fun c e _ h2 => by rw [z] at e; exact absurd e.symm (nI_ne (by omega)))⟩
      rw [ec] at st
      by_cases q1 : c ≤ H
      · rw [if_pos (nI_le q1 (by omega))] at st
        exact ⟨B, _, a1.trans st, a2, skip (fun c' e h1 h2 => by
          have := nI_inj (by omega) (by omega) (ec.symm.trans e); omega)⟩
      rw [if_neg (nI_ge (by omega) (by omega))] at st
      by_cases q2 : 9999 < c
      · rw [if_pos (show (9999 : Int32) < nI c from nI_lt (a := 9999) q2 (by omega))] at st
        exact ⟨B, _, a1.trans st, a2, skip (fun c' e h1 h2 => by
          have := nI_inj (by omega) (by omega) (ec.symm.trans e); omega)⟩
      rw [if_neg (show ¬ (9999 : Int32) < nI c from nI_nlt (a := 9999) (by omega) (by omega)), h.cyC ah _ (show c ≤ 9999 by omega), hN, am_call_s, am_toL, b6_81, nI_1] at st
      have skc : (∃ w, B = some w ∧ w ≤ c) ∨ pW M v A nt c = false → ∀ t, t < k + 1 → ∀ c, C 279 t = nI c → H < c → c ≤ 9999 → (∃ w, B = some w ∧ w ≤ c) ∨ pW M v A nt c = false := fun o => skip (fun c' e h1 h2 => by
          have := nI_inj (by omega) (by omega) (ec.symm.trans e); subst this; exact o)
      have fin : (∀ w, B = some w → c < w) → ∃ (B' : Option Nat) (v6 : Value), (if nI (nsm (cbF M v c) nt) < A then am_ev (d + 1 + 1) 6 25 [.ref 274, .ref 41, .int v, .int A, .int (optI B), .int (nI (k + 1)), .int (nI c)] [] (C, Jc, (tc_R x), tc_S, 289, 11479) else am_ev (d + 1 + 1) 6 25 [.ref 274, .ref 41, .int v, .int A, .int (nI c), .int (nI (k + 1)), .int (nI c)] [] (C, Jc, (tc_R x), tc_S, 289, 11479)) = am_ev (d + 2) 6 25 [.ref 274, .ref 41, .int v, .int A, .int (optI B'), .int (nI (k + 1)), v6] [] (C, Jc, (tc_R x), tc_S, 289, 11479) ∧ (∀ w, B' = some w → H < w ∧ w ≤ 9999 ∧ pW M v A nt w = true) ∧ ∀ t, t < k + 1 → ∀ c, C 279 t = nI c → H < c → c ≤ 9999 → (∃ w, B' = some w ∧ w ≤ c) ∨ pW M v A nt c = false := by
        intro lt
        by_cases q3 : nI (nsm (cbF M v c) nt) < A
        · rw [if_pos q3]
          exact ⟨B, _, rfl, a2, skc (Or.inr (by unfold pW; rw [decide_eq_false_iff_not]; exact fun w => w q3))⟩
        · rw [if_neg q3]
          refine ⟨some c, _, rfl, (fun w hw => by cases hw; exact ⟨by omega, by omega, by unfold pW; rw [decide_eq_true_eq]; exact q3⟩), fun t ht c' e h1 h2 => ?_⟩
          by_cases z : t = k
          · subst z
            have := nI_inj (by omega) (by omega) (ec.symm.trans e)
            exact Or.inl ⟨c, rfl, by omega⟩
          · rcases a3 t (by omega) c' e h1 h2 with ⟨w, hw, wl⟩ | y
            · have := lt w hw
              exact Or.inl ⟨c, rfl, by omega⟩
            · exact Or.inr y
      cases B with
      | none =>
        rw [if_pos (show optI none = -1 from rfl)] at st
        obtain ⟨B', v7, y1, y2⟩ := fin (fun w hw => by cases hw)
        exact ⟨B', v7, a1.trans (st.trans y1), y2⟩
      | some w =>
        obtain ⟨w1, w2, w3⟩ := a2 w rfl
        have oe : optI (some w) = nI w := rfl
        rw [oe] at st
        rw [if_neg (nI_ne (by omega))] at st
        by_cases q4 : w ≤ c
        · rw [if_pos (nI_le q4 (by omega))] at st
          exact ⟨some w, _, a1.trans st, a2, skc (Or.inl ⟨w, rfl, q4⟩)⟩
        · rw [if_neg (nI_ge (by omega) (by omega))] at st
          obtain ⟨B', v7, y1, y2⟩ := fin (fun w' hw => by cases hw; omega)
          exact ⟨B', v7, a1.trans (st.trans y1), y2⟩
  obtain ⟨B, v6, a1, a2, a3⟩ := run nt (Nat.le_refl _)
  refine Eq.trans a1 ?_
  have gl : M 0 74 ≤ nI nt := by rw [et]; exact Int32.le_refl _
  rw [b6_25, h.nt, if_pos gl]
  have eB : B = fnd (pW M v A nt) (9999 - H) (H + 1) := by
    cases e : fnd (pW M v A nt) (9999 - H) (H + 1) with
    | none =>
      cases B with
      | none => rfl
      | some w =>
        obtain ⟨w1, w2, w3⟩ := a2 w rfl
        have := fnd_none _ _ e w (by omega) (by omega)
        rw [this] at w3; exact absurd w3 (by decide)
    | some w =>
      obtain ⟨y1, y2, y3, y4⟩ := fnd_some _ _ _ e
      have p0 : pW M v A nt (w - 1) = false := by
        by_cases z : w = H + 1
        · rw [z, Nat.add_sub_cancel]; exact pH
        · exact y4 (w - 1) (by omega) (by omega)
      rw [← hN] at p0 y3
      obtain ⟨t, ht, et'⟩ := ah.ex (v := v) (A := A) (w := w) (by omega) (by omega) p0 y3
      rw [hN] at y3 p0 ht
      rcases a3 t ht w et' (by omega) (by omega) with ⟨w', hw', wl⟩ | z
      · obtain ⟨u1, u2, u3⟩ := a2 w' hw'
        rw [hw']
        by_cases z : w' < w
        · have := y4 w' (by omega) z
          rw [this] at u3; exact absurd u3 (by decide)
        · rw [show w' = w by omega]
      · rw [z] at y3; exact absurd y3 (by decide)
  rw [eB]
theorem k_when (h : Rl x C M J) (a : Int32) : Lk 144 273 [.int a] x C M Jc J := by
  rcases h.od (Jc := Jc) a 98 97 with ⟨e1, e2⟩ | ⟨k, hk, rfl, h8, e1, e2⟩
  · exact ⟨-1, x, C, M, J, by rw [b144_0, e1, am_call_s, am_toL, b144_12, if_pos rfl], by rw [b273_0, e2, am_call_s, am_toL, b273_5, if_pos rfl], h⟩
  · obtain ⟨C', M', f1, f2, f3, f4, ah, f6⟩ := h.fsee (Jc := Jc) 96 95
    have hx := xb1 x
    have hk' : k < Int32.toNatClampNeg (M' 26 (xb x)) := by rw [f6 26 _ (by omega)]; exact hk
    have i8 : am_in (nI k) 8 := nI_in h8 (by omega)
    have ck : (nI k).toNatClampNeg = k := nI_clamp (by omega)
    have po := f3.P.2.2.2.2.2.2.2.1.2 k hk'
    have i16 : am_in (nI (8 * xb x + k)) 16 := nI_in (by omega) (by omega)
    have c16 : (nI (8 * xb x + k)).toNatClampNeg = 8 * xb x + k := nI_clamp (by omega)
    obtain ⟨H, h9, eH⟩ := f3.hourB
    have mC : am_G (am_ev 100) 144 [.ref 0, .int (nI k)] (C, Jc, (tc_R x), tc_S, 289, 11479) = some (some (.int (optI (fnd (pW M' (M' 27 (8 * xb x + k)) (asS M' x (M' 27 (8 * xb x + k)) (k + 1)) (Int32.toNatClampNeg (M' 0 74))) (10000 - H) H))), (C', Jc, (tc_R x), tc_S, 289, 11479)) := by
      rw [b144_0, e1, am_call_s, am_toL, b144_12, if_neg (by decide : ¬ (1 : Int32) = 0), f1, am_call_s, am_toN, b144_28, if_pos i8]
      simp only [ck]
      rw [po.1, f3.auC hk', am_call_s, am_toL, b144_59, f3.whC ah _ _ eH h9, am_call_s, am_toL, b144_62]
    have mM : am_G (am_ev 100) 273 [.ref 0, .int (nI k)] (M, J, tm_R, tm_S, 77, 21637) = some (some (.int (optI (fnd (pW M' (M' 27 (8 * xb x + k)) (asS M' x (M' 27 (8 * xb x + k)) (k + 1)) (Int32.toNatClampNeg (M' 0 74))) (10000 - H) H))), (M', J, tm_R, tm_S, 77, 21637)) := by
      rw [b273_0, e2, am_call_s, am_toL, b273_5, if_neg (by decide : ¬ (1 : Int32) = 0), f2, am_call_s, am_toN, b273_14, m_order8, am_call_s, am_toL, b273_23, f3.ix8, if_pos i16]
      simp only [c16]
      rw [eH]
      exact f3.whM _ h8 (10000 - H) H (by omega)
    exact ⟨_, x, C', M', J, mC, mM, f3⟩
end KW
