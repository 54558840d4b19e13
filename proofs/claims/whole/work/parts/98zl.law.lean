/-! LAWS: the statement, whole -/
section LWS
variable {y : Bool} {N : Nat → Nat} {la lb : Nat} {C M C' M' : tI} {J J' : tJ}
theorem PG.fr9 (h : PG y N la lb C M J) (hC : ∀ o k, o ≤ 32 → k < prC N la o → C' (tc_P y + o) k = C (tc_P y + o) k) (hM : ∀ a k, 2 ≤ a → a ≤ 33 → k < prM N lb a → M' a (sdd a * xb y + k) = M a (sdd a * xb y + k)) (hJ : ∀ q k, q < 5 → k < N q → J' (jk q) (kx q * xb y + k) = J (jk q) (kx q * xb y + k)) (n2 : N 2 ≤ 6) : gNm y N C' J' ∧ gMx y N C' M' ∧ gPt y N C' M' ∧ gSz y N C' M' ∧ gNd y N C' M' ∧ gCh y N C' M' ∧ gMo y N C' M' ∧ gOr y N C' M' ∧ gZz y C' M' := by
  obtain ⟨h1, h2, h3, h4, h5, h6, h7, h8, h9, h10⟩ := h
  refine ⟨?_, ?_, ?_, ?_, ?_, ?_, ?_, ?_, ?_⟩
  · intro q k hq hk
    rw [hJ q k hq hk]
    have e : C' (tc_P y + 3 + q) k = C (tc_P y + 3 + q) k := by
      rcases q5 hq with rfl | rfl | rfl | rfl | rfl
      · exact hC 3 k (by omega) hk
      · exact hC 4 k (by omega) hk
      · exact hC 5 k (by omega) hk
      · exact hC 6 k (by omega) hk
      · exact hC 7 k (by omega) hk
    rw [e]; exact h1 q k hq hk
  · intro k hk
    have a1 : M' 4 (6 * xb y + k) = M 4 (6 * xb y + k) := hM 4 k (by omega) (by omega) hk
    have a2 : M' 5 (6 * xb y + k) = M 5 (6 * xb y + k) := hM 5 k (by omega) (by omega) hk
    rw [hC 8 k (by omega) hk, hC 9 k (by omega) hk, a1, a2]; exact h2 k hk
  · intro k hk
    have a1 : M' 8 (8 * xb y + k) = M 8 (8 * xb y + k) := hM 8 k (by omega) (by omega) hk
    have a2 : M' 9 (8 * xb y + k) = M 9 (8 * xb y + k) := hM 9 k (by omega) (by omega) hk
    have a3 : M' 10 (8 * xb y + k) = M 10 (8 * xb y + k) := hM 10 k (by omega) (by omega) hk
    rw [hC 10 k (by omega) hk, hC 11 k (by omega) hk, hC 12 k (by omega) hk, a1, a2, a3]; exact h3 k hk
  · intro k hk
    have a1 : M' 13 (6 * xb y + k) = M 13 (6 * xb y + k) := hM 13 k (by omega) (by omega) hk
    rw [hC 13 k (by omega) hk, a1]; exact h4 k hk
  · have a1 : ∀ k, k < N 7 → M' 15 (24 * xb y + k) = M 15 (24 * xb y + k) := fun k hk => hM 15 k (by omega) (by omega) hk
    have a2 : ∀ k, k < N 7 → M' 16 (24 * xb y + k) = M 16 (24 * xb y + k) := fun k hk => hM 16 k (by omega) (by omega) hk
    have a3 : ∀ k, k < N 7 → M' 17 (24 * xb y + k) = M 17 (24 * xb y + k) := fun k hk => hM 17 k (by omega) (by omega) hk
    refine ⟨fun s q hs hq => ?_, fun k hk => ?_, fun k l hk hl => ?_⟩
    · have e : C' (tc_P y + 15 + s) q = C (tc_P y + 15 + s) q := by
        rcases six hs with rfl | rfl | rfl | rfl | rfl | rfl
        · exact hC 15 q (by omega) hq
        · exact hC 16 q (by omega) hq
        · exact hC 17 q (by omega) hq
        · exact hC 18 q (by omega) hq
        · exact hC 19 q (by omega) hq
        · exact hC 20 q (by omega) hq
      rw [e, ndS_eq (M := M) (N 7) (fun k hk => ⟨a1 k hk, a2 k hk, a3 k hk⟩)]
      exact h5.1 s q hs hq
    · rw [a1 k hk, a2 k hk, a3 k hk]; exact h5.2.1 k hk
    · rw [a1 k (by omega), a3 k (by omega), a1 l hl, a3 l hl]; exact h5.2.2 k l hk hl
  · have e : ∀ a c, a < 6 → c < 6 → C' (tc_P y + 22 + a) c = C (tc_P y + 22 + a) c := by
      intro a c ha hc
      rcases six ha with rfl | rfl | rfl | rfl | rfl | rfl
      · exact hC 22 c (by omega) hc
      · exact hC 23 c (by omega) hc
      · exact hC 24 c (by omega) hc
      · exact hC 25 c (by omega) hc
      · exact hC 26 c (by omega) hc
      · exact hC 27 c (by omega) hc
    refine ⟨fun a c ha hc hh => ?_, fun a c ha hc => ?_⟩
    · rw [e a c ha hc]; exact h6.1 a c ha hc hh
    · have a1 : M' 19 (6 * (6 * xb y + a) + c) = M 19 (6 * (6 * xb y + a) + c) := by
        have := hM 19 (6 * a + c) (by omega) (by omega) (show 6 * a + c < 36 by omega)
        have e2 : sdd 19 * xb y + (6 * a + c) = 6 * (6 * xb y + a) + c := by show 36 * xb y + (6 * a + c) = _; omega
        rw [e2] at this; exact this
      rw [e a c (by omega) (by omega), a1]; exact h6.2 a c ha hc
  · intro k hk
    have a1 : M' 24 (8 * xb y + k) = M 24 (8 * xb y + k) := hM 24 k (by omega) (by omega) hk
    have a2 : M' 25 (8 * xb y + k) = M 25 (8 * xb y + k) := hM 25 k (by omega) (by omega) hk
    rw [hC 28 k (by omega) hk, hC 29 k (by omega) hk, a1, a2]; exact h7 k hk
  · intro k hk
    have a1 : M' 27 (8 * xb y + k) = M 27 (8 * xb y + k) := hM 27 k (by omega) (by omega) hk
    have a2 : M' 28 (8 * xb y + k) = M 28 (8 * xb y + k) := hM 28 k (by omega) (by omega) hk
    have a3 : M' 29 (8 * xb y + k) = M 29 (8 * xb y + k) := hM 29 k (by omega) (by omega) hk
    rw [hC 30 k (by omega) hk, hC 31 k (by omega) hk, hC 32 k (by omega) hk, a1, a2, a3]; exact h8 k hk
  · have e0 : ∀ k, k < 20 → C' (tc_P y) k = C (tc_P y) k := fun k hk => hC 0 k (by omega) hk
    have e1 : ∀ a, a = 30 ∨ a = 31 ∨ a = 32 ∨ a = 33 → M' a (xb y) = M a (xb y) := by
      intro a ha
      have key : sdd a * xb y + 0 = xb y := by rcases ha with rfl | rfl | rfl | rfl <;> exact Nat.one_mul _
      have := hM a 0 (by omega) (by omega) (by rcases ha with rfl | rfl | rfl | rfl <;> exact Nat.one_pos)
      rw [key] at this; exact this
    unfold gZz at h9 ⊢
    rw [e0 16 (by omega), e0 17 (by omega), e0 18 (by omega), e0 19 (by omega), e1 30 (by omega), e1 31 (by omega), e1 32 (by omega), e1 33 (by omega)]
    exact h9
end LWS
section LWO
variable {T : Nat → Nat} {n p q k v la lb : Nat} {w : List Nat} {x : Bool} {C M C' M' C1 M1 C2 M2 : tI} {J J' J1 J2 Jc : tJ} {N : Nat → Nat} {e : Nat}
theorem mx6 : mxx 6 = 8 := rfl
theorem PG.law (h : PG (!x) N la lb C M J) {A B : List (Nat × Int)} (n2 : N 2 ≤ 6) (n6 : N 6 < 8) (hla : la ≤ 1600)
    (hC : ∀ o k, o ≤ 32 → o ≠ 1 → C' (tc_P (!x) + o) k = C (tc_P (!x) + o) k) (hC4 : ∀ k, k < la → C' (tc_P (!x) + 34) k = C (tc_P (!x) + 34) k) (hC5 : ∀ k, k < N 6 → C' (tc_P (!x) + 35) k = C (tc_P (!x) + 35) k)
    (c5a : C' (tc_P (!x) + 35) (N 6) = nI la) (c5b : C' (tc_P (!x) + 35) (N 6 + 1) = nI (la + A.length)) (c33 : C' (tc_P (!x) + 33) 2 = nI (la + A.length)) (cA : l_atC C' (tc_P (!x)) la A)
    (hM : ∀ a k, 2 ≤ a → a ≤ 33 → M' a (sdd a * xb (!x) + k) = M a (sdd a * xb (!x) + k)) (hM5 : ∀ k, k < N 6 → M' 35 (8 * xb (!x) + k) = M 35 (8 * xb (!x) + k) ∧ M' 36 (8 * xb (!x) + k) = M 36 (8 * xb (!x) + k)) (hM7 : ∀ k, k < lb → M' 37 (1600 * xb (!x) + k) = M 37 (1600 * xb (!x) + k) ∧ M' 38 (1600 * xb (!x) + k) = M 38 (1600 * xb (!x) + k))
    (m35 : M' 35 (8 * xb (!x) + N 6) = nI lb) (m36 : M' 36 (8 * xb (!x) + N 6) = nI (lb + B.length)) (m50 : M' 0 50 = nI (lb + B.length)) (mB : l_atM M' (xb (!x)) lb B) (ok : l_ok A B)
    (hJ : ∀ q k, q < 5 → k < N q → J' (jk q) (kx q * xb (!x) + k) = J (jk q) (kx q * xb (!x) + k)) : PG (!x) (upN N 6) (la + A.length) (lb + B.length) C' M' J' := by
  have hC0 : ∀ o k, o ≤ 32 → k < prC N la o → C' (tc_P (!x) + o) k = C (tc_P (!x) + o) k := fun o k h1 h2 => by
    by_cases z : o = 1
    · subst z; exact absurd h2 (Nat.not_lt_zero _)
    · exact hC o k h1 z
  obtain ⟨g1, g2, g3, g4, g5, g6, g7, g8, g9⟩ := h.fr9 (C' := C') (M' := M') (J' := J') hC0 (fun a k h1 h2 _ => hM a k h1 h2) hJ n2
  obtain ⟨l1, l2, l3, l4⟩ := h.2.2.2.2.2.2.2.2.2
  have o : ∀ i, i ≠ 6 → upN N 6 i = N i := fun i hi => upN_o N hi
  refine ⟨fun q k hq hk => ?_, ?_, ?_, ?_, ?_, ?_, ?_, ?_, g9, c33, m50, fun _ => ?_, fun k hk => ?_⟩
  · rw [o q (by omega)] at hk; exact g1 q k hq hk
  · unfold gMx; rw [o 0 (by omega)]; exact g2
  · unfold gPt; rw [o 0 (by omega), o 1 (by omega)]; exact g3
  · unfold gSz; rw [o 2 (by omega)]; exact g4
  · unfold gNd; rw [o 1 (by omega), o 2 (by omega), o 7 (by omega)]; exact g5
  · unfold gCh; rw [o 2 (by omega)]; exact g6
  · unfold gMo; rw [o 2 (by omega), o 4 (by omega)]; exact g7
  · unfold gOr; rw [o 2 (by omega), o 5 (by omega)]; exact g8
  · rw [upN_s]; exact c5b
  · rcases upN_c hk with z | ⟨_, z⟩
    · obtain ⟨A', B', s, f, b1, b2, b3, b4, b5, b6, b7, b8, b9⟩ := l4 k z
      refine ⟨A', B', s, f, ?_, ?_, by omega, ?_, ?_, by omega, fun i hi => ?_, fun i hi => ?_, b9⟩
      · rw [hC5 k z]; exact b1
      · by_cases y : k + 1 < N 6
        · rw [hC5 _ y]; exact b2
        · obtain e : k + 1 = N 6 := by omega
          rw [e] at b2 ⊢
          rw [c5a, ← l3 (by omega)]; exact b2
      · rw [(hM5 k z).1]; exact b4
      · rw [(hM5 k z).2]; exact b5
      · rw [hC4 (s + i) (by omega)]; exact b7 i hi
      · rw [(hM7 (f + i) (by omega)).1, (hM7 (f + i) (by omega)).2]; exact b8 i hi
    · subst z
      exact ⟨A, B, la, lb, c5a, c5b, Nat.le_refl _, m35, m36, Nat.le_refl _, cA, mB, ok⟩
end LWO
