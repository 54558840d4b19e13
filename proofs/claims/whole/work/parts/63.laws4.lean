/-! holds -/
section LH
variable {x : Bool} {C C0 M : tI} {J J0 Jc : tJ} {S S' : List Int}
theorem l_cw {k : Nat} (hk : k ≠ 0) (w : Int) : l_cc (k, w) = l_cc (k, 0) := by
  unfold l_cc
  dsimp only
  split <;> first | rfl | (exfalso; omega)
theorem l_cc_x {k : Nat} (hk : 10 ≤ k ∧ k ≤ 21) (w : Int) : l_cc (k, w) < 0 ∧ l_cc (k, w) ^^^ (-1) = l_ac k := by
  have hk' : k = 10 ∨ k = 11 ∨ k = 12 ∨ k = 13 ∨ k = 14 ∨ k = 15 ∨ k = 16 ∨ k = 17 ∨ k = 18 ∨ k = 19 ∨ k = 20 ∨ k = 21 := by omega
  rw [l_cw (by omega) w]
  clear hk
  rcases hk' with rfl | rfl | rfl | rfl | rfl | rfl | rfl | rfl | rfl | rfl | rfl | rfl <;> exact ⟨by decide +kernel, by decide +kernel⟩
theorem l_ac_n {k : Nat} (hk : 10 ≤ k ∧ k ≤ 21) : ¬ l_ac k = 23 ∧ ¬ l_ac k = 24 ∧ ¬ l_ac k = 25 ∧ ¬ l_ac k = 26 ∧ ¬ l_ac k = 27 ∧ ¬ l_ac k = 28 ∧ ¬ l_ac k = 29 := by
  have hk' : k = 10 ∨ k = 11 ∨ k = 12 ∨ k = 13 ∨ k = 14 ∨ k = 15 ∨ k = 16 ∨ k = 17 ∨ k = 18 ∨ k = 19 ∨ k = 20 ∨ k = 21 := by omega
  rcases hk' with rfl | rfl | rfl | rfl | rfl | rfl | rfl | rfl | rfl | rfl | rfl | rfl <;> decide +kernel
theorem lcR.act (h : Rl x C0 M J) {t : Nat} (ht : t < Int32.toNatClampNeg (M 0 74)) (h2 : M 55 t = 2) (q : lcR C0 C (tc_P x) S) {c : Nat × Int} (hc : c.1 ≠ 0) (hs : l_st 64 (evM M t) c S = some S') (d : Nat) : l_cc c < 0 ∧ ∃ C', am_G (am_ev (d + 4)) 45 [.ref (tc_P x + 33), .int (l_cc c ^^^ (-1)), .ref (150 + 2 * t)] (C, Jc, (tc_R x), tc_S, 289, 11479) = some (none, (C', Jc, (tc_R x), tc_S, 289, 11479)) ∧ lcR C0 C' (tc_P x) S' := by
  have hx := tc_P4 x
  have nt := h.ntB.cl (by omega)
  have htk := tt_k (k := t) (by omega)
  obtain ⟨hev, l1, l2⟩ := h.ev ht h2
  have g := h.H.2.2.2.1 t ht
  have fr := q.2.2.2.2
  have rd : ∀ b, C (150 + 2 * t) b = C0 (150 + 2 * t) b := fun b => fr _ b (by omega) (by omega)
  obtain ⟨k, w⟩ := c
  unfold l_st at hs
  rw [if_neg hc] at hs
  have hc : k ≠ 0 := hc
  by_cases k5 : k ≤ 5
  · rw [if_pos k5] at hs
    by_cases hl : S.length < 64
    · rw [if_pos hl] at hs
      cases hs
      obtain ⟨C', p1, p2⟩ := q.push (Jc := Jc) (lE hev k) hl (d + 2)
      have hk' : k = 1 ∨ k = 2 ∨ k = 3 ∨ k = 4 ∨ k = 5 := by omega
      refine ⟨?_, C', ?_, p2⟩
      · rw [l_cw hc w]
        rcases hk' with rfl | rfl | rfl | rfl | rfl <;> decide +kernel
      · rcases hk' with rfl | rfl | rfl | rfl | rfl
        · have e : C (150 + 2 * t) 3 = Int32.ofInt (evM M t 1) := by rw [rd, g.2.2.2.2.1]; exact (i_self _).symm
          rw [show l_cc (1, w) ^^^ (-1) = (25 : Int32) from by rw [l_cw (by omega) w]; decide +kernel, b45_0, if_neg (by decide : ¬ (25 : Int32) = 23), if_neg (by decide : ¬ (25 : Int32) = 24), if_pos (rfl : (25 : Int32) = 25), if_pos htk, e, p1, am_call_s, am_toN, b45_60, b45_142]
        · have e : C (150 + 2 * t) 4 = Int32.ofInt (evM M t 2) := by rw [rd, g.2.2.2.2.2.1]; exact (i_self _).symm
          rw [show l_cc (2, w) ^^^ (-1) = (26 : Int32) from by rw [l_cw (by omega) w]; decide +kernel, b45_0, if_neg (by decide : ¬ (26 : Int32) = 23), if_neg (by decide : ¬ (26 : Int32) = 24), if_neg (by decide : ¬ (26 : Int32) = 25), if_pos (rfl : (26 : Int32) = 26), if_pos htk, e, p1, am_call_s, am_toN, b45_71, b45_142]
        · have e : C (150 + 2 * t) 5 = Int32.ofInt (evM M t 3) := by rw [rd, g.2.2.2.2.2.2.1]; exact (i_self _).symm
          rw [show l_cc (3, w) ^^^ (-1) = (27 : Int32) from by rw [l_cw (by omega) w]; decide +kernel, b45_0, if_neg (by decide : ¬ (27 : Int32) = 23), if_neg (by decide : ¬ (27 : Int32) = 24), if_neg (by decide : ¬ (27 : Int32) = 25), if_neg (by decide : ¬ (27 : Int32) = 26), if_pos (rfl : (27 : Int32) = 27), if_pos htk, e, p1, am_call_s, am_toN, b45_82, b45_142]
        · have e : C (150 + 2 * t) 0 = Int32.ofInt (evM M t 4) := by rw [rd, g.1]; exact (i_self _).symm
          rw [show l_cc (4, w) ^^^ (-1) = (28 : Int32) from by rw [l_cw (by omega) w]; decide +kernel, b45_0, if_neg (by decide : ¬ (28 : Int32) = 23), if_neg (by decide : ¬ (28 : Int32) = 24), if_neg (by decide : ¬ (28 : Int32) = 25), if_neg (by decide : ¬ (28 : Int32) = 26), if_neg (by decide : ¬ (28 : Int32) = 27), if_pos (rfl : (28 : Int32) = 28), if_pos htk, e, p1, am_call_s, am_toN, b45_93, b45_142]
        · have e : M 61 t = Int32.ofInt (evM M t 5) := (i_self _).symm
          rw [show l_cc (5, w) ^^^ (-1) = (29 : Int32) from by rw [l_cw (by omega) w]; decide +kernel, b45_0, if_neg (by decide : ¬ (29 : Int32) = 23), if_neg (by decide : ¬ (29 : Int32) = 24), if_neg (by decide : ¬ (29 : Int32) = 25), if_neg (by decide : ¬ (29 : Int32) = 26), if_neg (by decide : ¬ (29 : Int32) = 27), if_neg (by decide : ¬ (29 : Int32) = 28), if_pos (rfl : (29 : Int32) = 29), if_pos ⟨htk, (by have z : am_cats [Value.ref (tc_P x + 33)] = 1 := rfl; omega), by omega⟩, b107_0, if_pos htk, rd, if_neg l1, if_pos htk, if_pos htk, rd, l2, e, am_call_s, am_toL, b45_101, p1, am_call_s, am_toN, b45_104, b45_142]
    · rw [if_neg hl] at hs; cases hs
  · rw [if_neg k5] at hs
    by_cases k9 : k = 9
    · subst k9
      rw [if_pos rfl] at hs
      by_cases hl : S.length < 64
      · rw [if_pos hl] at hs
        cases hs
        obtain ⟨C', p1, p2⟩ := q.push (Jc := Jc) (v := 1) (by unfold lB; omega) hl (d + 2)
        refine ⟨by show (~~~ 24 : Int32) < 0; decide +kernel, C', ?_, p2⟩
        rw [show l_cc (9, w) ^^^ (-1) = (24 : Int32) from by rw [l_cw (by omega) w]; decide +kernel, b45_0, if_neg (by decide : ¬ (24 : Int32) = 23), if_pos (rfl : (24 : Int32) = 24), show (1 : Int32) = Int32.ofInt 1 from rfl, p1, am_call_s, am_toN, b45_49, b45_142]
      · rw [if_neg hl] at hs; cases hs
    · rw [if_neg k9] at hs
      by_cases k22 : k = 22
      · subst k22
        rw [if_pos rfl] at hs
        cases S with
        | nil => cases hs
        | cons a r =>
          have hs : (if l_bool a = true then some ((1 - a) :: r) else none) = some S' := hs
          by_cases hb : l_bool a = true
          · rw [if_pos hb] at hs
            cases hs
            obtain ⟨C1, p1, p2, _⟩ := q.pop (Jc := Jc) (d + 2)
            have l64 : r.length + 1 ≤ 64 := q.2.2.2.1
            obtain ⟨C2, p3, p4⟩ := p2.push (Jc := Jc) (v := 1 - a) (by rcases l_b01 hb with rfl | rfl <;> unfold lB <;> omega) (by omega) (d + 2)
            have e1 : (1 : Int32) - Int32.ofInt a = Int32.ofInt (1 - a) := by rcases l_b01 hb with rfl | rfl <;> decide +kernel
            refine ⟨by show (~~~ 23 : Int32) < 0; decide +kernel, C2, ?_, p4⟩
            rw [show l_cc (22, w) ^^^ (-1) = (23 : Int32) from by rw [l_cw (by omega) w]; decide +kernel, b45_0, if_pos rfl, p1, am_call_s, am_toL, b45_113, e1, p3, am_call_s, am_toN, b45_117, b45_142]
          · rw [if_neg hb] at hs; cases hs
      · rw [if_neg k22] at hs
        match S, q, hs with
        | [], _, hs => cases hs
        | [_], _, hs => cases hs
        | b :: a :: r, q, hs =>
          have hs : (l_op2 k a b).map (fun v => v :: r) = some S' := hs
          cases e : l_op2 k a b with
          | none => rw [e] at hs; cases hs
          | some v =>
            rw [e] at hs
            cases hs
            have kk := l_op2_k e
            obtain ⟨lx1, lx2⟩ := l_cc_x kk w
            obtain ⟨n1, n2, n3, n4, n5, n6, n7⟩ := l_ac_n kk
            obtain ⟨C1, p1, p2, lb1⟩ := q.pop (Jc := Jc) (d + 2)
            obtain ⟨C2, p3, p4, lb2⟩ := p2.pop (Jc := Jc) (d + 2)
            obtain ⟨j1, j2⟩ := c_join d C2 Jc x kk lb2 lb1 e
            have l64 : r.length + 1 + 1 ≤ 64 := q.2.2.2.1
            obtain ⟨C3, p5, p6⟩ := p4.push (Jc := Jc) j2 (by omega) (d + 2)
            refine ⟨lx1, C3, ?_, p6⟩
            rw [lx2, b45_0, if_neg n1, if_neg n2, if_neg n3, if_neg n4, if_neg n5, if_neg n6, if_neg n7, p1, am_call_s, am_toL]
            refine (b45_124 (d + 3) C1 Jc x x (l_ac k) (some (.inl (150 + 2 * t))) am_un am_un (Int32.ofInt b)).trans ?_
            rw [p3, am_call_s, am_toL, b45_129, j1, am_call_s, am_toL, b45_139, p5, am_call_s, am_toN, b45_142]
/-- a stretch of code -/
theorem lcR.run (h : Rl x C0 M J) {t : Nat} (ht : t < Int32.toNatClampNeg (M 0 74)) (h2 : M 55 t = 2) {law s : Nat} (hl : law < 8) (d : Nat) (A : List (Nat × Int)) (se : s + A.length ≤ 1600) (e35 : C0 (tc_P x + 35) (law + 1) = nI (s + A.length)) (hA : l_atC C0 (tc_P x) s A) : ∀ (B : List (Nat × Int)) (i : Nat) (C : tI) (S S' : List Int), A.drop i = B → i ≤ A.length → lcR C0 C (tc_P x) S → l_rn 64 (evM M t) B S = some S' → ∃ C', am_ev (d + 5) 42 12 [.ref (tc_P x + 33), .int (nI law), .ref (150 + 2 * t), .int (nI (s + i))] [] (C, Jc, (tc_R x), tc_S, 289, 11479) = am_ev (d + 5) 42 12 [.ref (tc_P x + 33), .int (nI law), .ref (150 + 2 * t), .int (nI (s + A.length))] [] (C', Jc, (tc_R x), tc_S, 289, 11479) ∧ lcR C0 C' (tc_P x) S' := by
  have hx := tc_P4 x
  intro B
  induction B with
  | nil =>
    intro i C S S' hB hi q hr
    have : i = A.length := by
      have := congrArg List.length hB
      rw [List.length_drop] at this
      simp at this
      omega
    subst this
    cases hr
    exact ⟨C, rfl, q⟩
  | cons c B ih =>
    intro i C S S' hB hi q hr
    have hi' : i < A.length := by
      have := congrArg List.length hB
      rw [List.length_drop] at this
      simp at this
      omega
    have hc : A.getD i (0, 0) = c := by
      rw [List.getD_eq_getElem?_getD]
      have : A[i]? = some c := by
        have e := congrArg (fun l => l[0]?) hB
        simp at e
        exact e
      rw [this]; rfl
    have hB2 : A.drop (i + 1) = B := by
      have := congrArg List.tail hB
      rw [List.tail_drop] at this
      exact this
    unfold l_rn at hr
    cases hs : l_st 64 (evM M t) c S with
    | none => rw [hs] at hr; cases hr
    | some S1 =>
      rw [hs] at hr
      have hr : l_rn 64 (evM M t) B S1 = some S' := hr
      have fr := q.2.2.2.2
      have e34 : C (tc_P x + 34) (s + i) = l_cc c := by (rw [fr _ _ (by omega) (by omega), hA i hi']; (try simp only [hc]))
      have e35' : C (tc_P x + 35) (law + 1) = nI (s + A.length) := by rw [fr _ _ (by omega) (by omega), e35]
      have i16 : am_in (nI (s + i)) 1600 := nI_in (by omega) (by omega)
      have ci : (nI (s + i)).toNatClampNeg = s + i := nI_clamp (by omega)
      have cl : (nI (law + 1)).toNatClampNeg = law + 1 := nI_clamp (by omega)
      have st : ∃ C1, am_ev (d + 5) 42 12 [.ref (tc_P x + 33), .int (nI law), .ref (150 + 2 * t), .int (nI (s + i))] [] (C, Jc, (tc_R x), tc_S, 289, 11479) = am_ev (d + 5) 42 12 [.ref (tc_P x + 33), .int (nI law), .ref (150 + 2 * t), .int (nI (s + (i + 1)))] [] (C1, Jc, (tc_R x), tc_S, 289, 11479) ∧ lcR C0 C1 (tc_P x) S1 := by
        by_cases c0 : c.1 = 0
        · unfold l_st at hs
          rw [if_pos c0] at hs
          by_cases q3 : S.length < 64 ∧ 0 ≤ c.2 ∧ c.2 ≤ 9999
          · rw [if_pos q3] at hs
            cases hs
            have e0 : l_cc c = Int32.ofInt c.2 := by unfold l_cc; rw [c0]; rfl
            have lb0 : lB c.2 := by unfold lB; omega
            obtain ⟨C1, p1, p2⟩ := q.push (Jc := Jc) lb0 q3.1 (d + 3)
            refine ⟨C1, ?_, p2⟩
            have nn : ¬ l_cc c < 0 := by
              rw [e0, i_lt, iI_t lb0]
              have : (0 : Int32).toInt = 0 := rfl
              omega
            rw [b42_12, nI_1, if_pos (nI_in (by omega) (by omega))]
            simp only [cl, ci]
            rw [e35', if_neg (nI_ge (by omega) (by omega)), if_pos i16, e34, if_neg nn, if_pos i16, e0, p1, am_call_s, am_toN, b42_43, b42_59, nI_1]
            rfl
          · rw [if_neg q3] at hs; cases hs
        · obtain ⟨n1, C1, p1, p2⟩ := lcR.act (Jc := Jc) h ht h2 q c0 hs d
          refine ⟨C1, ?_, p2⟩
          rw [b42_12, nI_1, if_pos (nI_in (by omega) (by omega))]
          simp only [cl, ci]
          rw [e35', if_neg (nI_ge (by omega) (by omega)), if_pos i16, e34, if_pos n1, if_pos i16, p1, am_call_s, am_toN, b42_59, nI_1]
          rfl
      obtain ⟨C1, e1, q1⟩ := st
      obtain ⟨C', e2, q2⟩ := ih (i + 1) C1 S1 S' hB2 (by omega) q1 hr
      exact ⟨C', e1.trans e2, q2⟩
/-- a law holds, or not -/
theorem Rl.hd (h : Rl x C0 M J) {t : Nat} (ht : t < Int32.toNatClampNeg (M 0 74)) (h2 : M 55 t = 2) {law s : Nat} (hl : law < 8) {A : List (Nat × Int)} {v : Int} (hv : v = 0 ∨ v = 1) (se : s + A.length ≤ 1600) (e0 : C0 (tc_P x + 35) law = nI s) (e35 : C0 (tc_P x + 35) (law + 1) = nI (s + A.length)) (hA : l_atC C0 (tc_P x) s A) (hr : l_rn 64 (evM M t) A [] = some [v]) (C : tI) (fC : ∀ a b, a ≠ tc_P x + 36 → (a = tc_P x + 33 → b ≠ 4) → C a b = C0 a b) (d : Nat) : ∃ C', am_G (am_ev (d + 5)) 42 [.ref (tc_P x + 33), .int (nI law), .ref (150 + 2 * t)] (C, Jc, (tc_R x), tc_S, 289, 11479) = some (some (.int (am_b (v = 1))), (C', Jc, (tc_R x), tc_S, 289, 11479)) ∧ ∀ a b, a ≠ tc_P x + 36 → (a = tc_P x + 33 → b ≠ 4) → C' a b = C0 a b := by
  have q0 : lcR C0 (am_u2 C (tc_P x + 33) 4 0) (tc_P x) [] := ⟨u2_s, trivial, (fun v hv => by cases hv), by decide, (fun a b q1 q2 => by rw [fr1 (by omega)]; exact fC a b q1 q2)⟩
  obtain ⟨C1, e1, q1⟩ := lcR.run (Jc := Jc) h ht h2 hl d A se e35 hA A 0 _ [] [v] rfl (Nat.zero_le _) q0 hr
  obtain ⟨C2, p1, p2, _⟩ := q1.pop (Jc := Jc) (d + 3)
  have cl : (nI law).toNatClampNeg = law := nI_clamp (by omega)
  have cl1 : (nI (law + 1)).toNatClampNeg = law + 1 := nI_clamp (by omega)
  refine ⟨C2, ?_, p2.2.2.2.2⟩
  rw [b42_0, if_pos (nI_in (by omega) (by omega))]
  simp only [cl]
  have e0' : C (tc_P x + 35) law = nI s := by rw [fC _ _ (by omega) (by omega)]; exact e0
  rw [e0']
  refine Eq.trans e1 ?_
  have e35' : C1 (tc_P x + 35) (law + 1) = nI (s + A.length) := by rw [q1.2.2.2.2 _ _ (by omega) (by omega)]; exact e35
  rw [b42_12, nI_1, if_pos (nI_in (by omega) (by omega))]
  simp only [cl1]
  rw [e35', if_pos (Int32.le_refl _), p1, am_call_s, am_toL, b42_69]
  rcases hv with rfl | rfl
  · rw [if_pos (by decide +kernel : Int32.ofInt 0 = 0)]; rfl
  · rw [if_neg (by decide +kernel : ¬ Int32.ofInt 1 = 0)]; rfl
end LH
/-! reckons -/
section RK
variable {x : Bool} {C M M1 : tI} {J J0 : tJ} {S S' : List Int}
def mst (J : tJ) : List Int → Prop
  | [] => True
  | v :: r => J 46 r.length = Int64.ofInt v ∧ mst J r
def mmR (J0 J : tJ) (S : List Int) : Prop := mst J S ∧ (∀ v ∈ S, lB v) ∧ ∀ a b, a ≠ 46 → J a b = J0 a b
theorem mst_u (J J' : tJ) (n : Nat) (h : ∀ j, j < n → J' 46 j = J 46 j) : ∀ S : List Int, S.length ≤ n → mst J S → mst J' S := by
  intro S
  induction S with
  | nil => intro _ _; trivial
  | cons v r ih =>
    intro hl hc
    have hl' : r.length + 1 ≤ n := hl
    exact ⟨(h _ (by omega)).trans hc.1, ih (by omega) hc.2⟩
theorem mmR.set (h : mmR J0 J S) {v : Int} (hv : lB v) : mmR J0 (am_u2 J 46 S.length (Int64.ofInt v)) (v :: S) := by
  obtain ⟨h1, h2, h3⟩ := h
  refine ⟨⟨u2_s, mst_u J _ S.length (fun j hj => u2_p (by omega)) S (Nat.le_refl _) h1⟩, fun w hw => ?_, fun a b q => by rw [u2_c q]; exact h3 a b q⟩
  rcases List.mem_cons.mp hw with q | q
  · rw [q]; exact hv
  · exact h2 w q
theorem mmR.tl {v : Int} (h : mmR J0 J (v :: S)) : mmR J0 J S := ⟨h.1.2, fun w hw => h.2.1 w (List.mem_cons_of_mem _ hw), h.2.2⟩
theorem i2l {v : Int} (h : lB v) : Int32.toInt64 (Int32.ofInt v) = Int64.ofInt v := iL_eq h (by rw [Int32.toInt_toInt64, iI_t h])
theorem mmR.run {b f to : Nat} (hb : b ≤ 1) (hB : M1 0 12 = nI b) {env : Nat → Int} (hev : l_env env) (h47 : ∀ k, 1 ≤ k → k ≤ 5 → M1 47 k = Int32.ofInt (env k)) (v1 : Value) (d : Nat) (A : List (Nat × Int)) (se : f + A.length ≤ 1600) (hto : to = f + A.length) (hA : l_atM M1 b f A) : ∀ (B : List (Nat × Int)) (i : Nat) (J : tJ) (S S' : List Int) (v5 : Value), A.drop i = B → i ≤ A.length → S.length ≤ i → mmR J0 J S → l_rn 1600 env B S = some S' → ∃ J' w5, S'.length ≤ A.length ∧ am_ev (d + 3) 208 14 [.ref 0, v1, .int (nI to), .int (nI S.length), .int (nI (1600 * b + (f + i))), v5] [] (M1, J, tm_R, tm_S, 77, 21637) = am_ev (d + 3) 208 14 [.ref 0, v1, .int (nI to), .int (nI S'.length), .int (nI (1600 * b + to)), w5] [] (M1, J', tm_R, tm_S, 77, 21637) ∧ mmR J0 J' S' := by
  intro B
  induction B with
  | nil =>
    intro i J S S' v5 hB' hi hl q hr
    have : i = A.length := by
      have := congrArg List.length hB'
      rw [List.length_drop] at this
      simp at this
      omega
    subst this
    cases hr
    exact ⟨J, v5, hl, by rw [hto], q⟩
  | cons c B ih =>
    intro i J S S' v5 hB' hi hl q hr
    have hi' : i < A.length := by
      have := congrArg List.length hB'
      rw [List.length_drop] at this
      simp at this
      omega
    have hc : A.getD i (0, 0) = c := by
      rw [List.getD_eq_getElem?_getD]
      have : A[i]? = some c := by
        have e := congrArg (fun l => l[0]?) hB'
        simp at e
        exact e
      rw [this]; rfl
    have hB2 : A.drop (i + 1) = B := by
      have := congrArg List.tail hB'
      rw [List.tail_drop] at this
      exact this
    obtain ⟨e37, e38⟩ := hA i hi'
    ((try simp only [hc] at e37 e38))
    unfold l_rn at hr
    cases hs : l_st 1600 env c S with
    | none => rw [hs] at hr; cases hr
    | some S1 =>
      rw [hs] at hr
      have hr : l_rn 1600 env B S1 = some S' := hr
      obtain ⟨k, w⟩ := c
      have e37 : M1 37 (1600 * b + (f + i)) = nI k := e37
      have e38 : M1 38 (1600 * b + (f + i)) = Int32.ofInt w := e38
      have i32 : am_in (nI (1600 * b + (f + i))) 3200 := nI_in (by omega) (by omega)
      have ci : (nI (1600 * b + (f + i))).toNatClampNeg = 1600 * b + (f + i) := nI_clamp (by omega)
      have e16 : (1600 : Int32) * M1 0 12 + nI to = nI (1600 * b + to) := by rw [hB]; exact nI_ix 1600 b to
      have gl : ¬ nI (1600 * b + to) ≤ nI (1600 * b + (f + i)) := nI_ge (by omega) (by omega)
      have i50 : am_in (nI S.length) 1650 := nI_in (by omega) (by omega)
      have cs : (nI S.length).toNatClampNeg = S.length := nI_clamp (by omega)
      have st : ∃ J1 w5, S1.length ≤ i + 1 ∧ am_ev (d + 3) 208 14 [.ref 0, v1, .int (nI to), .int (nI S.length), .int (nI (1600 * b + (f + i))), v5] [] (M1, J, tm_R, tm_S, 77, 21637) = am_ev (d + 3) 208 14 [.ref 0, v1, .int (nI to), .int (nI S1.length), .int (nI (1600 * b + (f + (i + 1)))), w5] [] (M1, J1, tm_R, tm_S, 77, 21637) ∧ mmR J0 J1 S1 := by
        rw [b208_14, e16, if_neg gl, if_pos i32]
        simp only [ci, e37, e38, nI_1]
        unfold l_st at hs
        by_cases k0 : k = 0
        · subst k0
          rw [if_pos rfl] at hs
          by_cases q3 : S.length < 1600 ∧ 0 ≤ w ∧ w ≤ 9999
          · have hs : (if S.length < 1600 ∧ 0 ≤ w ∧ w ≤ 9999 then some (w :: S) else none) = some S1 := hs
            rw [if_pos q3] at hs
            cases hs
            have lw : lB w := by unfold lB; omega
            refine ⟨am_u2 J 46 S.length (Int64.ofInt w), .int (nI 0), (by show S.length + 1 ≤ i + 1; omega), ?_, q.set lw⟩
            rw [if_neg (show ¬ (9 : Int32) < nI 0 by decide), if_pos (show nI 0 = 0 from rfl), if_pos i32, if_pos i50]
            simp only [cs]
            rw [i2l lw]; rfl
          · have hs : (if S.length < 1600 ∧ 0 ≤ w ∧ w ≤ 9999 then some (w :: S) else none) = some S1 := hs
            rw [if_neg q3] at hs; cases hs
        rw [if_neg k0] at hs
        by_cases k5 : k ≤ 5
        · rw [if_pos k5] at hs
          by_cases hl6 : S.length < 1600
          · have hs : (if S.length < 1600 then some (env k :: S) else none) = some S1 := hs
            rw [if_pos hl6] at hs
            cases hs
            refine ⟨am_u2 J 46 S.length (Int64.ofInt (env k)), .int (nI k), (by show S.length + 1 ≤ i + 1; omega), ?_, q.set (lE hev k)⟩
            have ck : (nI k).toNatClampNeg = k := nI_clamp (by omega)
            rw [if_neg (show ¬ (9 : Int32) < nI k from nI_nlt (a := 9) (by omega) (by omega)), if_neg (nI_ne0 (by omega) (by omega)), if_neg (show ¬ nI k = (9 : Int32) from fun y => by have := nI_inj (b := 9) (by omega) (by omega) y; omega), if_pos (nI_in (by omega) (by omega)), if_pos i50]
            simp only [cs, ck]
            rw [h47 k (by omega) k5, i2l (lE hev k)]; rfl
          · have hs : (if S.length < 1600 then some (env k :: S) else none) = some S1 := hs
            rw [if_neg hl6] at hs; cases hs
        rw [if_neg k5] at hs
        by_cases k9 : k = 9
        · subst k9
          rw [if_pos rfl] at hs
          by_cases hl6 : S.length < 1600
          · rw [if_pos hl6] at hs
            cases hs
            have l1 : lB 1 := by unfold lB; omega
            refine ⟨am_u2 J 46 S.length (Int64.ofInt 1), .int (nI 9), (by show S.length + 1 ≤ i + 1; omega), ?_, q.set l1⟩
            rw [if_neg (show ¬ (9 : Int32) < nI 9 by decide), if_neg (show ¬ nI 9 = (0 : Int32) by decide), if_pos (show nI 9 = 9 from rfl), if_pos i50]
            simp only [cs]
            rfl
          · rw [if_neg hl6] at hs; cases hs
        rw [if_neg k9] at hs
        by_cases k22 : k = 22
        · subst k22
          rw [if_pos rfl] at hs
          cases S with
          | nil => cases hs
          | cons a r =>
            have hs : (if l_bool a = true then some ((1 - a) :: r) else none) = some S1 := hs
            by_cases hb1 : l_bool a = true
            · rw [if_pos hb1] at hs
              cases hs
              have hl' : r.length + 1 ≤ i := hl
              have e1 : nI (r.length + 1) - 1 = nI r.length := nI_pred _
              have cr : (nI r.length).toNatClampNeg = r.length := nI_clamp (by omega)
              have ir : am_in (nI r.length) 1650 := nI_in (by omega) (by omega)
              have lq : lB (1 - a) := by rcases l_b01 hb1 with rfl | rfl <;> unfold lB <;> omega
              refine ⟨am_u2 J 46 r.length (Int64.ofInt (1 - a)), .int (nI 22), (by show r.length + 1 ≤ i + 1; omega), ?_, q.tl.set lq⟩
              show _ = am_ev (d + 3) 208 14 [.ref 0, v1, .int (nI to), .int (nI (r.length + 1)), _, _] [] _
              have e46 : J 46 r.length = Int64.ofInt a := q.1.1
              have e2 : (1 : Int64) - Int64.ofInt a = Int64.ofInt (1 - a) := by rcases l_b01 hb1 with rfl | rfl <;> decide +kernel
              rw [if_pos (show (9 : Int32) < nI 22 by decide), if_pos (show nI 22 = 22 from rfl)]
              simp only [List.length_cons, e1]
              rw [if_pos ir, if_pos ir]
              simp only [cr]
              rw [e46, e2]
              rfl
            · rw [if_neg hb1] at hs; cases hs
        rw [if_neg k22] at hs
        match S, q, hl, hs, i50, cs with
        | [], _, _, hs, _, _ => cases hs
        | [_], _, _, hs, _, _ => cases hs
        | b' :: a :: r, q, hl, hs, _, _ =>
          have hs : (l_op2 k a b').map (fun v => v :: r) = some S1 := hs
          cases e : l_op2 k a b' with
          | none => rw [e] at hs; cases hs
          | some v =>
            rw [e] at hs
            cases hs
            have kk := l_op2_k e
            have hl' : r.length + 1 + 1 ≤ i := hl
            have la : lB a := q.2.1 a (List.mem_cons_of_mem _ (List.mem_cons_self ..))
            have lb1 : lB b' := q.2.1 b' (List.mem_cons_self ..)
            have lv : lB v := (c_join 0 (fun _ _ => 0) J0 false kk la lb1 e).2
            have e1 : nI (r.length + 1 + 1) + Int32.ofInt (-1) = nI (r.length + 1) := by
              have z : Int32.ofInt (-1) = -1 := rfl
              rw [z, ← Int32.sub_eq_add_neg, nI_pred]
            have e2 : nI (r.length + 1) - 1 = nI r.length := nI_pred _
            have cr : (nI r.length).toNatClampNeg = r.length := nI_clamp (by omega)
            have cr1 : (nI (r.length + 1)).toNatClampNeg = r.length + 1 := nI_clamp (by omega)
            have ir : am_in (nI r.length) 1650 := nI_in (by omega) (by omega)
            have ir1 : am_in (nI (r.length + 1)) 1650 := nI_in (by omega) (by omega)
            have ea : J 46 r.length = Int64.ofInt a := q.1.2.1
            have eb : J 46 (r.length + 1) = Int64.ofInt b' := q.1.1
            refine ⟨am_u2 J 46 r.length (Int64.ofInt v), .int (nI k), (by show r.length + 1 ≤ i + 1; omega), ?_, q.tl.tl.set lv⟩
            rw [if_pos (show (9 : Int32) < nI k from nI_lt (a := 9) (by omega) (by omega)), if_neg (show ¬ nI k = (22 : Int32) from fun y => by have := nI_inj (b := 22) (by omega) (by omega) y; omega)]
            show am_ev (d + 3) 208 123 [.ref 0, v1, .int (nI to), .int (nI (r.length + 1 + 1) + Int32.ofInt (-1)), .int (nI (1600 * b + (f + i))), .int (nI k)] [] (M1, J, tm_R, tm_S, 77, 21637) = _
            rw [e1, b208_123, e2, if_pos ir, if_pos ir1]
            simp only [cr, cr1]
            rw [ea, eb, m_made d M1 J kk la lb1 e, am_call_s, am_toL, b208_149, if_pos ir]
            simp only [cr, nI_1]
            rfl
      obtain ⟨J1, w5, l1, e1, q1⟩ := st
      obtain ⟨J', w6, l2, e2, q2⟩ := ih (i + 1) J1 S1 S' w5 hB2 (by omega) l1 q1 hr
      exact ⟨J', w6, l2, e1.trans e2, q2⟩
end RK
