/-! makeTyre and builds; build -/
section BL2
variable {x : Bool} {C M : tI} {J Jc : tJ}
theorem Rl.chB (h : Rl x C M J) {s : Nat} (hs : s < Int32.toNatClampNeg (M 11 (xb x))) : bd (chg M x (M 0 89) s) 99 := by
  unfold chg
  by_cases q : M 0 89 = -1
  · rw [if_pos q]; exact ⟨0, by omega, rfl⟩
  · rw [if_neg q]
    have w := h.lastB.resolve_left q
    exact (h.P.2.2.2.2.2.2.1.2.2 _ s w.2 hs).1
theorem Rl.mk (h : Rl x C M J) {s : Nat} (hs : s < Int32.toNatClampNeg (M 11 (xb x))) (hc : cbP M x s) (d e : Nat) : ∃ (n t : Nat) (C' M' : tI), am_G (am_ev (d + 3)) 24 [.ref 41, .int (nI s)] (C, Jc, (tc_R x), tc_S, 289, 11479) = some (some (.int (nI n)), (C', Jc, (tc_R x), tc_S, 289, 11479)) ∧ am_G (am_ev (e + 3)) 239 [.ref 0, .int (nI s)] (M, J, tm_R, tm_S, 77, 21637) = some (some (.int (nI n)), (M', J, tm_R, tm_S, 77, 21637)) ∧ Rl x C' M' J ∧ n < 60 ∧ M' 0 65 = nI t ∧ Int32.toNatClampNeg (M 0 65) < t ∧ t ≤ 9999 ∧ M' 20 (xb x) = M 20 (xb x) := by
  have hx := tc_P4 x
  have hx1 := xb1 x
  have b11 := h.n11.2.cl (by omega)
  obtain ⟨n, hn60, en⟩ := h.ntB
  obtain ⟨t, ht, et⟩ := h.hourB
  obtain ⟨np, h4, enp⟩ := h.n20.2
  obtain ⟨c, hc99, ec⟩ := h.chB hs
  have n60 : n < 60 := by
    have q := hc.2.1
    rw [en, (show (60 : Int32) = nI 60 from rfl), nI_ltI (by omega) (by omega)] at q; exact q
  have tc9 : t + 1 + c ≤ 9999 := by
    have q := hc.2.2
    rw [et, ec, nI_1, nI_add, (show (9999 : Int32) = nI 9999 from rfl), nI_leI (by omega) (by omega)] at q; exact q
  have c74 : Int32.toNatClampNeg (M 0 74) = n := by rw [en]; exact nI_clamp (by omega)
  -- the class up to its parts
  let C1 := am_u2 C (150 + 2 * n) 0 (nI s)
  have r1 : Rl x C1 M J := h.tfree c74 n60 (fun a b q1 q2 => u2_c q1)
  let R := lR C1 M x s
  let B := lO C1 M x s (fun _ => True) (Int32.toNatClampNeg (M 0 70))
  let nl := Int32.toNatClampNeg (M 0 70)
  have hR : ∀ l, l < nl → R l ≤ 60 := fun l hl => (r1.lR60 s hl).2.1
  let C2 := bC C1 nl (fun _ => True) R
  let M2 := bM M nl (fun _ => True) R
  have nl40 : nl ≤ 40 := h.nlB.cl (by omega)
  have r2 : Rl x C2 M2 J := r1.lots rfl _ hR
  have f2 : ∀ a b, a ≠ 53 → M2 a b = M a b := fun a b q => bM_f q
  let C3 := am_u2 (am_u2 (am_u2 (am_u2 C2 (150 + 2 * n) 2 B) (150 + 2 * n) 4 (-1)) (150 + 2 * n) 5 (-1)) (150 + 2 * n) 6 (-1)
  let C4 := fillC C3 (150 + 2 * n + 1) 8 0
  have g4 : ∀ a b, a ≠ 150 + 2 * n → a ≠ 150 + 2 * n + 1 → C4 a b = C2 a b := by
    intro a b q1 q2
    show fillC C3 (150 + 2 * n + 1) 8 0 a b = C2 a b
    unfold fillC
    rw [if_neg (fun w => q2 w.1)]
    show am_u2 (am_u2 (am_u2 (am_u2 C2 (150 + 2 * n) 2 B) (150 + 2 * n) 4 (-1)) (150 + 2 * n) 5 (-1)) (150 + 2 * n) 6 (-1) a b = C2 a b
    rw [u2_c q1, u2_c q1, u2_c q1, u2_c q1]
  have h4t : ∀ b, C4 (150 + 2 * n) b = C3 (150 + 2 * n) b := by
    intro b
    show fillC C3 (150 + 2 * n + 1) 8 0 (150 + 2 * n) b = _
    unfold fillC
    rw [if_neg (fun w => by omega)]
  have h3t0 : C3 (150 + 2 * n) 0 = nI s := by
    show am_u2 (am_u2 (am_u2 (am_u2 C2 (150 + 2 * n) 2 B) (150 + 2 * n) 4 (-1)) (150 + 2 * n) 5 (-1)) (150 + 2 * n) 6 (-1) (150 + 2 * n) 0 = nI s
    simp (disch := omega) only [u2_p]
    show bC C1 nl (fun _ => True) R (150 + 2 * n) 0 = nI s
    rw [bC_f (by omega)]
    exact u2_s
  have h3t2 : C3 (150 + 2 * n) 2 = B := by
    show am_u2 (am_u2 (am_u2 (am_u2 C2 (150 + 2 * n) 2 B) (150 + 2 * n) 4 (-1)) (150 + 2 * n) 5 (-1)) (150 + 2 * n) 6 (-1) (150 + 2 * n) 2 = B
    simp (disch := omega) only [u2_p, u2_s]
  have h3t4 : C3 (150 + 2 * n) 4 = -1 := by
    show am_u2 (am_u2 (am_u2 (am_u2 C2 (150 + 2 * n) 2 B) (150 + 2 * n) 4 (-1)) (150 + 2 * n) 5 (-1)) (150 + 2 * n) 6 (-1) (150 + 2 * n) 4 = -1
    simp (disch := omega) only [u2_p, u2_s]
  have h3t5 : C3 (150 + 2 * n) 5 = -1 := by
    show am_u2 (am_u2 (am_u2 (am_u2 C2 (150 + 2 * n) 2 B) (150 + 2 * n) 4 (-1)) (150 + 2 * n) 5 (-1)) (150 + 2 * n) 6 (-1) (150 + 2 * n) 5 = -1
    simp (disch := omega) only [u2_p, u2_s]
  have h3t6 : C3 (150 + 2 * n) 6 = -1 := u2_s
  have h4w : ∀ i, i < 8 → C4 (150 + 2 * n + 1) i = 0 := fun i hi => if_pos ⟨rfl, hi⟩
  have r4 : Rl x C4 M2 J := r2.tfree (by rw [f2 0 74 (by omega)]; exact c74) n60 g4
  have e12 : M2 0 65 = nI t := by rw [f2 0 65 (by omega)]; exact et
  have e20 : M2 20 (xb x) = nI np := by rw [f2 20 _ (by omega)]; exact enp
  have s2 : s < Int32.toNatClampNeg (M2 11 (xb x)) := by rw [f2 11 _ (by omega)]; exact hs
  have ch2 : chg M2 x (M2 0 89) s = nI c := by
    rw [← ec]
    unfold chg
    rw [f2 0 89 (by omega), f2 19 _ (by omega)]
  -- hours go by
  let k := 1 + c
  have hk : t + k ≤ 9999 := by show t + (1 + c) ≤ 9999; omega
  let C5 := pass C4 np (t + k)
  let M5 := hgN M2 np t k
  obtain ⟨r5, e5⟩ := r4.hrs e12 e20 h4 k hk
  have r5 : Rl x C5 M5 J := r5
  have e5 : M5 0 65 = nI (t + k) := e5
  have f5 : ∀ a b, a ≠ 55 → a ≠ 62 → a ≠ 65 → (a = 0 → b ≠ 65) → M5 a b = M2 a b := fun a b q1 q2 q3 q4 => hgN_f q1 q2 q3 q4 k
  have p5 : ∀ a b, a ≠ 82 → (270 ≤ a ∧ a < 270 + np → b ≠ 1) → (a = 41 → b ≠ 1) → C5 a b = C4 a b := fun a b q1 q2 q3 => pass_f q1 q2 q3
  have e74 : M5 0 74 = nI n := by rw [f5 0 74 (by omega) (by omega) (by omega) (by omega), f2 0 74 (by omega)]; exact en
  have d74 : Int32.toNatClampNeg (M5 0 74) = n := by rw [e74]; exact nI_clamp (by omega)
  let C6 := am_u2 C5 (150 + 2 * n) 1 (nI (t + k))
  have r6 : Rl x C6 M5 J := r5.tfree d74 n60 (fun a b q1 q2 => u2_c q1)
  let od := odS M5 B (Int32.toNatClampNeg (M5 0 66))
  have q6 : ∀ b, b ≠ 1 → C6 (150 + 2 * n) b = C3 (150 + 2 * n) b := by
    intro b hb
    show am_u2 C5 (150 + 2 * n) 1 (nI (t + k)) (150 + 2 * n) b = _
    rw [u2_p hb, p5 _ _ (by omega) (by omega) (by omega), h4t]
  have q61 : C6 (150 + 2 * n) 1 = M5 0 65 := by
    show am_u2 C5 (150 + 2 * n) 1 (nI (t + k)) (150 + 2 * n) 1 = _
    rw [u2_s, e5]
  have q6w : ∀ i, i < 8 → C6 (150 + 2 * n + 1) i = 0 := by
    intro i hi
    show am_u2 C5 (150 + 2 * n) 1 (nI (t + k)) (150 + 2 * n + 1) i = _
    rw [u2_c (by omega), p5 _ _ (by omega) (by omega) (by omega), h4w i hi]
  have s5 : s < Int32.toNatClampNeg (M5 11 (xb x)) := by rw [f5 11 _ (by omega) (by omega) (by omega) (by omega)]; exact s2
  have r7 : Rl x (addC C6 n s od) (addM M5 n s B od) J := r6.addT e74 n60 s5 (r6.odB B _ (Nat.le_refl _)) (by rw [q6 0 (by omega)]; exact h3t0) q61 (by rw [q6 2 (by omega)]; exact h3t2) (by rw [q6 4 (by omega)]; exact h3t4) (by rw [q6 5 (by omega)]; exact h3t5) (by rw [q6 6 (by omega)]; exact h3t6) q6w
  have i60 : am_in (nI n) 60 := nI_in n60 (by omega)
  have cn1 : (nI n).toNatClampNeg = n := nI_clamp (by omega)
  have htk := tt_k n60
  refine ⟨n, t + k, addC C6 n s od, addM M5 n s B od, ?_, ?_, r7, n60, ?_, ?_, hk, ?_⟩
  · rw [b24_0, h.nt, en, if_pos i60]
    simp only [cn1]
    rw [if_pos htk, r1.tpC (by omega), am_call_s, am_toL, b24_21, if_pos htk, if_pos htk, if_pos htk, if_pos htk, if_pos htk, tr_w x n n60]
    refine (b24_43 (d + 2) C3 Jc x (nI s) (150 + 2 * n) (150 + 2 * n + 1)).trans ?_
    rw [c_fill _ C3 Jc x 0 (ts_w n n60) (by omega) (by omega), am_call_s, am_toN, b24_47, b22_0]
    have l4 : fillC C3 (150 + 2 * n + 1) 8 0 41 2 = M2 0 89 := r4.last
    have l1 : fillC C3 (150 + 2 * n + 1) 8 0 41 1 = nI t := r4.hour.trans e12
    have hb4 : am_G (am_ev (d + 1)) 61 [.ref (tc_P x), .int (M2 0 89), .int (nI s)] (fillC C3 (150 + 2 * n + 1) 8 0, Jc, (tc_R x), tc_S, 289, 11479) = some (some (.int (nI c)), (fillC C3 (150 + 2 * n + 1) 8 0, Jc, (tc_R x), tc_S, 289, 11479)) := by rw [← ch2]; exact r4.hbC r4.last' s2 d
    rw [l4, hb4, am_call_s, am_toL, b22_18, am_call_s, am_toL, b24_53]
    have eh : fillC C3 (150 + 2 * n + 1) 8 0 41 1 + 1 + nI c = nI (t + k) := by rw [l1, nI_1, nI_add, Nat.add_assoc]
    rw [eh]
    have ca := c_pass (d + 1) C4 Jc x (t := t + k) (r4.n20.1.trans e20) h4 (r4.tyB h4).1
    have goal : am_ev (d + 3) 24 56 [.ref 41, .int (nI s), .ref (150 + 2 * n)] [.int (nI (fcn C4 (t + k) np))] (C5, Jc, (tc_R x), tc_S, 289, 11479) = some (some (.int (nI n)), (addC C6 n s od, Jc, (tc_R x), tc_S, 289, 11479)) := by
      have h1 : C5 41 1 = nI (t + k) := r5.hour.trans e5
      have hB : am_u2 C5 (150 + 2 * n) 1 (nI (t + k)) (150 + 2 * n) 2 = B := by
        rw [u2_p (by omega), p5 _ _ (by omega) (by omega) (by omega), h4t, h3t2]
      have hn10 : am_u2 C6 (150 + 2 * n) 3 od 41 10 = nI n := by
        rw [u2_c (by omega)]
        exact r6.nt.trans e74
      rw [b24_56, if_pos htk, if_pos htk, h1, hB]
      have od1 := r6.odC (Jc := Jc) B d
      refine Eq.trans (congrArg (fun z => am_call z _) od1) ?_
      rw [am_call_s, am_toL, b24_74, if_pos htk]
      have hn10' : am_u2 C6 (150 + 2 * n) 3 (odS M5 B (Int32.toNatClampNeg (M5 0 66))) 41 10 = nI n := hn10
      rw [hn10', if_pos i60]
      simp only [cn1]
      rw [nI_1, nI_pred]
      rfl
    refine Eq.trans (congrArg (fun z => am_call z _) ca) ?_
    rw [am_call_s, am_toL]
    exact goal
  · obtain ⟨v3, v4, v5, v6, e0⟩ := r1.tpM (s := s) (by omega) e
    have e89 : M 0 89 = M2 0 89 := (f2 0 89 (by omega)).symm
    rw [e0, e89]
    have hb := r4.hbM r4.last' s2 e
    rw [ch2] at hb
    refine Eq.trans (congrArg (fun z => am_call z _) hb) ?_
    rw [am_call_s, am_toL, b239_192]
    have k1 : (1 : Int32) + nI c = nI k := nI_add 1 c
    rw [k1]
    have run : ∀ j, j ≤ k → ∀ v5 v6, am_ev (e + 3) 239 197 [.ref 0, .int (nI s), .int B, .int (nI k), .int (nI 0), v5, v6] [] (M2, J, tm_R, tm_S, 77, 21637) = am_ev (e + 3) 239 197 [.ref 0, .int (nI s), .int B, .int (nI k), .int (nI j), v5, v6] [] (hgN M2 np t j, J, tm_R, tm_S, 77, 21637) := by
      intro j
      induction j with
      | zero => intro _ v5 v6; rfl
      | succ j ih =>
        intro hj v5 v6
        obtain ⟨c', _, e1, _⟩ := r4.hrC e12 e20 h4 (e + 1) j (by omega)
        rw [ih (by omega), b239_197, if_neg (nI_ge (by omega) (by omega)), e1, am_call_s, am_toL, b239_207, nI_1]
    refine Eq.trans (run k (Nat.le_refl _) v5 v6) ?_
    have i0 : am_in (M5 0 74) 60 := by rw [e74]; exact i60
    show am_ev (e + 3) 239 197 [.ref 0, .int (nI s), .int B, .int (nI k), .int (nI k), v5, v6] [] (M5, J, tm_R, tm_S, 77, 21637) = _
    rw [b239_197, if_pos (Int32.le_refl _), if_pos i0, if_pos i0, if_pos i0, if_pos i0, if_pos i0]
    simp only [e74, cn1, nI_1]
    -- the ages
    let W := am_u2 (am_u2 (am_u2 (am_u2 (am_u2 M5 0 74 (nI (n + 1))) 54 n (nI s)) 55 n 0) 56 n (M5 0 65)) 57 n B
    have fW : ∀ v a b, (a = 0 → b ≠ 74) → (a < 54 ∨ 58 < a) → am_u2 W 58 n v a b = M5 a b := by
      intro v a b q1 q2
      show am_u2 (am_u2 (am_u2 (am_u2 (am_u2 (am_u2 M5 0 74 (nI (n + 1))) 54 n (nI s)) 55 n 0) 56 n (M5 0 65)) 57 n B) 58 n v a b = _
      rw [fr1 (by omega), fr1 (by omega), fr1 (by omega), fr1 (by omega), fr1 (by omega), fr1 (by omega)]
    have nb := r5.nbB.cl (by omega)
    have eb := r5.nbB.eq (by omega)
    have run2 : ∀ j, j ≤ Int32.toNatClampNeg (M5 0 66) → ∀ v3 v6, am_ev (e + 3) 239 276 [.ref 0, .int (nI s), .int B, v3, .int (nI n), .int (nI 0), v6] [] (am_u2 W 58 n 0, J, tm_R, tm_S, 77, 21637) = am_ev (e + 3) 239 276 [.ref 0, .int (nI s), .int B, v3, .int (nI n), .int (nI j), v6] [] (am_u2 W 58 n (odS M5 B j), J, tm_R, tm_S, 77, 21637) := by
      intro j
      induction j with
      | zero => intro _ v3 v6; rfl
      | succ j ih =>
        intro hj v3 v6
        have gl : ¬ M5 0 66 ≤ nI j := by rw [eb]; exact nI_ge hj (by omega)
        have cj : (nI j).toNatClampNeg = j := nI_clamp (by omega)
        have age : ∀ v, am_G (am_ev (e + 2)) 219 [.ref 0, .int (nI j)] (am_u2 W 58 n v, J, tm_R, tm_S, 77, 21637) = some (some (.int (M5 0 65 - M5 50 j)), (am_u2 W 58 n v, J, tm_R, tm_S, 77, 21637)) := by
          intro v
          rw [m_age _ _ _ _ (nI_in (by omega) (by omega)), fW v 0 65 (by omega) (by omega)]
          simp only [cj]
          rw [fW v 50 j (by omega) (by omega)]
        have eo : odS M5 B (j + 1) = odF M5 B j (odS M5 B j) := rfl
        rw [ih (by omega), b239_276, fW _ 0 66 (by omega) (by omega), if_neg gl, eo, odF_e, nI_1]
        by_cases q : bt B j = true
        · rw [if_pos q, if_pos ((bt_s1 _ _ (by omega)).mpr q), age, am_call_s, am_toL, b239_301, if_pos i60]
          simp only [cn1]
          rw [u2_s]
          by_cases q2 : odS M5 B j < M5 0 65 - M5 50 j
          · rw [if_pos q2, if_neg (Int32.not_le.mpr q2), age, am_call_s, am_toL, b239_323, if_pos i60]
            simp only [cn1]
            rw [u2_u2, nI_1]
          · rw [if_neg q2, if_pos (Int32.not_lt.mp q2), nI_1]
        · rw [if_neg q, if_neg (fun w => q ((bt_s1 _ _ (by omega)).mp w))]
    refine Eq.trans (run2 _ (Nat.le_refl _) _ _) ?_
    have ge : M5 0 66 ≤ nI (Int32.toNatClampNeg (M5 0 66)) := by rw [← eb]; exact Int32.le_refl _
    rw [b239_276, fW _ 0 66 (by omega) (by omega), if_pos ge, if_pos i60, if_pos i60, if_pos i60, if_pos i60]
    simp only [cn1]
    rfl
  · show addM M5 n s B od 0 65 = nI (t + k)
    rw [← e5]
    unfold addM
    simp (disch := omega) only [u2_c, u2_p]
  · (rw [et]; (try simp (disch := omega) only [nI_clamp]))
    show t < t + (1 + c)
    omega
  · rw [← f2 20 (xb x) (by omega), ← f5 20 (xb x) (by omega) (by omega) (by omega) (by omega)]
    show addM M5 n s B od 20 (xb x) = M5 20 (xb x)
    unfold addM
    simp (disch := omega) only [u2_c]
theorem k_build (h : Rl x C M J) (a : Int32) : Lk 125 240 [.int a] x C M Jc J := by
  have bad := fun e1 e2 => (⟨-1, x, _, _, J, e1, e2, h.ref 2 (by omega)⟩ : Lk 125 240 [.int a] x C M Jc J)
  rcases h.kind (Jc := Jc) (q := 2) (by omega) a 98 97 with ⟨e1, e2⟩ | ⟨s, hs, rfl, hs6, e1, e2⟩
  · exact bad (by rw [b125_0, (show (2 : Int32) = nI 2 from rfl), e1, am_call_s, am_toL, b125_12, if_pos rfl, crk _ _ _ _ 2 2 rfl (by omega), am_call_s, am_toL, b125_31]) (by rw [b240_0, (show (2 : Int32) = nI 2 from rfl), e2, am_call_s, am_toL, b240_6, if_pos rfl, mrk _ _ _ 2 2 rfl (by omega), am_call_s, am_toL, b240_30])
  · have hs : s < Int32.toNatClampNeg (M 11 (xb x)) := hs
    by_cases q : cbP M x s
    · obtain ⟨n, t, C', M', m1, m2, r, _⟩ := h.mk (Jc := Jc) hs q 96 96
      refine ⟨nI n, x, C', M', J, ?_, ?_, r⟩
      · rw [b125_0, (show (2 : Int32) = nI 2 from rfl), e1, am_call_s, am_toL, b125_12, if_neg (by decide : ¬ (1 : Int32) = 0), h.cbC hs, am_call_s, am_toL, b125_23, am_b1 q, if_neg (by decide : ¬ (1 : Int32) = 0), m1, am_call_s, am_toL, b125_40]
      · rw [b240_0, (show (2 : Int32) = nI 2 from rfl), e2, am_call_s, am_toL, b240_6, if_neg (by decide : ¬ (1 : Int32) = 0), h.cbM hs, am_call_s, am_toL, b240_14, am_b1 q, if_neg (by decide : ¬ (1 : Int32) = 0), m2, am_call_s, am_toL, b240_22, b240_30]
    · exact bad (by rw [b125_0, (show (2 : Int32) = nI 2 from rfl), e1, am_call_s, am_toL, b125_12, if_neg (by decide : ¬ (1 : Int32) = 0), h.cbC hs, am_call_s, am_toL, b125_23, am_b0 q, if_pos rfl, crk _ _ _ _ 2 2 rfl (by omega), am_call_s, am_toL, b125_31]) (by rw [b240_0, (show (2 : Int32) = nI 2 from rfl), e2, am_call_s, am_toL, b240_6, if_neg (by decide : ¬ (1 : Int32) = 0), h.cbM hs, am_call_s, am_toL, b240_14, am_b0 q, if_pos rfl, mrk _ _ _ 2 2 rfl (by omega), am_call_s, am_toL, b240_30])
end BL2
