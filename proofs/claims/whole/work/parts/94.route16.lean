/-! route -/
section RTG
variable {x : Bool} {C M : tI} {J Jc : tJ}
theorem k_route (h : Rl x C M J) (a : Int32) : Lk 141 265 [.int a] x C M Jc J := by
  obtain ⟨b, D, q, hb, eb, c1, hD, n1, bs, ql, h2, h3⟩ := h.rtC (Jc := Jc) 96
  rw [h.rsE] at n1 bs ql h3
  have lA := h.oAl _ (Nat.le_refl _)
  have hA := h.oAN
  have ak := h.akM 97
  generalize oA M x (Int32.toNatClampNeg (M 26 (xb x))) = A at *
  have l6 : (rst A 0).length ≤ 6 := fl_len _ 6
  have bq : bsr (gM M x) A 0 b = some q := bs
  -- the model's answer
  have mod : ∃ (r : Int32) (M' : tI), am_G (am_ev 100) 265 [.ref 0, .int a] (M, J, tm_R, tm_S, 77, 21637) = some (some (.int r), (M', J, tm_R, tm_S, 77, 21637)) ∧ (∀ i j, i ≠ 70 → M' i j = M i j) ∧ (a = -1 → r = nI (cst' (gM M x) b q)) ∧ (∀ i, i < q.length → a = nI i → r = nI (q.getD i 0)) ∧ (a ≠ -1 → (∀ i, i < q.length → a ≠ nI i) → r = -1) := by
    by_cases z : A = 0
    · subst z
      have q0 : q = [] := by
        rw [bsr_0 _ _ (rst_A 0)] at bq; cases bq; rfl
      subst q0
      have st := b265_0 99 M J a
      rw [ak, am_call_s, am_toL, b265_4, if_pos (show nI 0 = 0 from rfl)] at st
      by_cases y : a = -1
      · rw [if_pos y] at st
        exact ⟨_, M, st, fun _ _ _ => rfl, fun _ => rfl, (fun i hi => by cases hi), fun w => absurd y w⟩
      · rw [if_neg y] at st
        exact ⟨_, M, st, fun _ _ _ => rfl, fun w => absurd w y, (fun i hi => by cases hi), fun _ _ => rfl⟩
    · obtain ⟨M', m1, m2, m3⟩ := h.rtM lA hA 96
      have hM' : Rl x C M' J := h.scr (fun _ _ _ => rfl) (fun i j w => m2 i j (by omega)) (fun _ _ _ => rfl)
      have gD : gM M' x = gM M x := gM_c (fun j => m2 19 j (by omega))
      have e11 : M' 11 (xb x) = M 11 (xb x) := m2 _ _ (by omega)
      obtain ⟨r, y1, y2, y3, y4⟩ := hM'.wkM (A := A) lA (by rw [e11]; exact hA) (by rw [gD]; exact m3) a 96 (rst A 0).length 0 b 0 0 q am_un rfl (fun i hi => by rw [Nat.zero_testBit] at hi; cases hi) (by rw [e11]; exact hb) (by rw [gD]; exact bq) (by omega)
      rw [gD] at y2
      have st := b265_0 99 M J a
      rw [ak, am_call_s, am_toL, b265_4, if_neg (show ¬ nI A = 0 from fun w => z (nI_inj (b := 0) (by omega) (by omega) w)), m1, am_call_s, am_toN, b265_25, m2 0 89 (by omega), ← eb] at st
      refine ⟨r, M', st.trans y1, m2, fun w => by rw [y2 w, Nat.zero_add], fun i hi w => y3 i hi (by rw [w, Nat.zero_add]), fun w1 w2 => y4 w1 (fun i hi w => w2 i hi (by rw [w, Nat.zero_add]))⟩
  obtain ⟨r, M', m1, m2, m3, m4, m5⟩ := mod
  have rel : ∀ {E : tI}, Rl x E M J → Rl x E M' J := fun k => k.scr (fun _ _ _ => rfl) (fun i j w => m2 i j (by omega)) (fun _ _ _ => rfl)
  have st := b141_0 99 C Jc x a
  by_cases q1 : a < -1
  · rw [if_pos q1] at st
    have l : a.toInt < -1 := by rw [i_lt] at q1; exact q1
    have er := m5 (fun w => by rw [w] at l; exact absurd l (by decide)) (fun i hi w => by rw [w, nI_toInt (by omega)] at l; omega)
    exact ⟨-1, x, C, M', J, st, by rw [← er]; exact m1, rel h⟩
  rw [if_neg q1] at st
  by_cases q2 : a < 6
  · rw [if_pos q2, c1, am_call_s, am_toN, b141_34] at st
    by_cases q3 : a = -1
    · rw [if_pos q3, h2, ← m3 q3] at st
      exact ⟨r, x, D, M', J, st, m1, rel hD⟩
    · rw [if_neg q3] at st
      rcases i_cases a (n := 6) (by omega) with w | ⟨k, hk, rfl⟩
      · exfalso
        rcases w with w | w
        · rw [i_lt] at w q1
          have e1 : (-1 : Int32).toInt = -1 := rfl
          have e0 : (0 : Int32).toInt = 0 := rfl
          rw [e1] at q1; rw [e0] at w
          exact q3 (Int32.toInt_inj.mp (by rw [e1]; omega))
        · exact absurd q2 (Int32.not_lt.mpr w)
      · have ck : (nI k).toNatClampNeg = k := nI_clamp (by omega)
        by_cases q4 : (rst A 0).length ≤ k
        · rw [n1, if_pos (nI_le q4 (by omega))] at st
          have er := m5 q3 (fun i hi w => by have := nI_inj (by omega) (by omega) w; omega)
          exact ⟨-1, x, D, M', J, st, by rw [← er]; exact m1, rel hD⟩
        · rw [n1, if_neg (nI_ge (by omega) (by omega)), if_pos (nI_in hk (by omega))] at st
          simp only [ck] at st
          rw [h3 k (by omega), ← m4 k (by omega) rfl] at st
          exact ⟨r, x, D, M', J, st, m1, rel hD⟩
  · rw [if_neg q2] at st
    have er := m5 (fun w => q2 (by rw [w]; decide)) (fun i hi w => q2 (by rw [w]; exact nI_lt (b := 6) (by omega) (by omega)))
    exact ⟨-1, x, C, M', J, st, by rw [← er]; exact m1, rel h⟩
end RTG
