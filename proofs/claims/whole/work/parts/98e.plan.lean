/-! THE PLAN that is read: its counts N, its groups -/
def cqq (q : Nat) : Nat := match q with
  | 0 => 2
  | 1 => 6
  | 2 => 11
  | 3 => 20
  | 4 => 22
  | 5 => 26
  | 6 => 34
  | 7 => 14
  | _ => 18
def mxx (q : Nat) : Nat := match q with
  | 0 => 6
  | 1 => 8
  | 2 => 6
  | 3 => 4
  | 4 => 8
  | 5 => 8
  | 6 => 8
  | 7 => 24
  | _ => 30
def sdd (a : Nat) : Nat := ([1, 1, 1, 6, 6, 6, 1, 8, 8, 8, 8, 1, 6, 6, 1, 24, 24, 24, 1, 36, 1, 4, 1, 8, 8, 8, 1, 8, 8, 8, 1, 1, 1, 1, 1, 8, 8, 1600, 1600] : List Nat).getD a 0
def upN (N : Nat → Nat) (q : Nat) : Nat → Nat := fun i => if i = q then N q + 1 else N i
theorem upN_s (N : Nat → Nat) (q : Nat) : upN N q q = N q + 1 := if_pos rfl
theorem upN_o (N : Nat → Nat) {q i : Nat} (h : i ≠ q) : upN N q i = N i := if_neg h
theorem upN_le (N : Nat → Nat) (q i : Nat) : N i ≤ upN N q i := by
  unfold upN
  by_cases h : i = q
  · rw [if_pos h, h]; omega
  · rw [if_neg h]; exact Nat.le_refl _
def gCn (y : Bool) (N : Nat → Nat) (C M : tI) : Prop := ∀ q, q < 9 → C (tc_P y + 1) q = nI (N q) ∧ M (cqq q) (xb y) = nI (N q) ∧ N q ≤ mxx q
def gNm (y : Bool) (N : Nat → Nat) (C : tI) (J : tJ) : Prop := ∀ q k, q < 5 → k < N q → nmR (C (tc_P y + 3 + q) k) (J (jk q) (kx q * xb y + k))
def gMx (y : Bool) (N : Nat → Nat) (C M : tI) : Prop := ∀ k, k < N 0 → ∃ r s : Nat, C (tc_P y + 8) k = nI r ∧ C (tc_P y + 9) k = nI s ∧ M 4 (6 * xb y + k) = nI r ∧ M 5 (6 * xb y + k) = nI s ∧ r ≤ s ∧ s ≤ 999
def gPt (y : Bool) (N : Nat → Nat) (C M : tI) : Prop := ∀ k, k < N 1 → ∃ a t w : Nat, C (tc_P y + 10) k = nI a ∧ C (tc_P y + 11) k = nI t ∧ C (tc_P y + 12) k = nI w ∧ M 8 (8 * xb y + k) = nI a ∧ M 9 (8 * xb y + k) = nI t ∧ M 10 (8 * xb y + k) = nI w ∧ a < N 0 ∧ 1 ≤ t ∧ t ≤ 99 ∧ 1 ≤ w ∧ w ≤ 99
def gSz (y : Bool) (N : Nat → Nat) (C M : tI) : Prop := ∀ k, k < N 2 → ∃ c : Nat, C (tc_P y + 13) k = nI c ∧ M 13 (6 * xb y + k) = nI c ∧ 1 ≤ c ∧ c ≤ 99
def gNd (y : Bool) (N : Nat → Nat) (C M : tI) : Prop := (∀ s q, s < 6 → q < 8 → C (tc_P y + 15 + s) q = ndS M (xb y) s q (N 7)) ∧ (∀ k, k < N 7 → ∃ s q m : Nat, M 15 (24 * xb y + k) = nI s ∧ M 17 (24 * xb y + k) = nI q ∧ M 16 (24 * xb y + k) = nI m ∧ s < N 2 ∧ q < N 1 ∧ 1 ≤ m ∧ m ≤ 9) ∧ ∀ k l, k < l → l < N 7 → ¬ (M 15 (24 * xb y + k) = M 15 (24 * xb y + l) ∧ M 17 (24 * xb y + k) = M 17 (24 * xb y + l))
def gCh (y : Bool) (N : Nat → Nat) (C M : tI) : Prop := (∀ a c, a < 6 → c < 6 → (N 2 ≤ a ∨ N 2 ≤ c) → C (tc_P y + 22 + a) c = 1) ∧ ∀ a c, a < N 2 → c < N 2 → ∃ m : Nat, M 19 (6 * (6 * xb y + a) + c) = nI m ∧ m ≤ 99 ∧ (a = c → m = 0) ∧ (a ≠ c → C (tc_P y + 22 + a) c = nI m)
def gMo (y : Bool) (N : Nat → Nat) (C M : tI) : Prop := ∀ k, k < N 4 → ∃ a t : Nat, C (tc_P y + 28) k = nI a ∧ C (tc_P y + 29) k = nI t ∧ M 24 (8 * xb y + k) = nI a ∧ M 25 (8 * xb y + k) = nI t ∧ a < N 2 ∧ 1 ≤ t ∧ t ≤ 99
def gOr (y : Bool) (N : Nat → Nat) (C M : tI) : Prop := ∀ k, k < N 5 → ∃ a t w : Nat, C (tc_P y + 30) k = nI a ∧ C (tc_P y + 31) k = nI t ∧ C (tc_P y + 32) k = nI w ∧ M 27 (8 * xb y + k) = nI a ∧ M 28 (8 * xb y + k) = nI t ∧ M 29 (8 * xb y + k) = nI w ∧ a < N 2 ∧ 1 ≤ t ∧ t ≤ 60 ∧ w ≤ 9999
def gZz (y : Bool) (C M : tI) : Prop := ∃ a b c d : Nat, C (tc_P y) 16 = nI a ∧ C (tc_P y) 17 = nI b ∧ C (tc_P y) 18 = nI c ∧ C (tc_P y) 19 = nI d ∧ M 30 (xb y) = nI a ∧ M 31 (xb y) = nI b ∧ M 32 (xb y) = nI c ∧ M 33 (xb y) = nI d ∧ 1 ≤ a ∧ a ≤ 400 ∧ b ≤ 9 ∧ c ≤ 999 ∧ d ≤ 999
def gLw (y : Bool) (N : Nat → Nat) (la lb : Nat) (C M : tI) : Prop := C (tc_P y + 33) 2 = nI la ∧ M 0 50 = nI lb ∧ (0 < N 6 → C (tc_P y + 35) (N 6) = nI la) ∧ ∀ k, k < N 6 → ∃ (A B : List (Nat × Int)) (s f : Nat), C (tc_P y + 35) k = nI s ∧ C (tc_P y + 35) (k + 1) = nI (s + A.length) ∧ s + A.length ≤ la ∧ M 35 (8 * xb y + k) = nI f ∧ M 36 (8 * xb y + k) = nI (f + B.length) ∧ f + B.length ≤ lb ∧ l_atC C (tc_P y) s A ∧ l_atM M (xb y) f B ∧ l_ok A B
/-- all groups but the counts -/
def PG (y : Bool) (N : Nat → Nat) (la lb : Nat) (C M : tI) (J : tJ) : Prop := gNm y N C J ∧ gMx y N C M ∧ gPt y N C M ∧ gSz y N C M ∧ gNd y N C M ∧ gCh y N C M ∧ gMo y N C M ∧ gOr y N C M ∧ gZz y C M ∧ gLw y N la lb C M
/-- how many places of a cell are taken -/
def prC (N : Nat → Nat) (la o : Nat) : Nat := match o with
  | 0 => 20
  | 3 => N 0
  | 4 => N 1
  | 5 => N 2
  | 6 => N 3
  | 7 => N 4
  | 8 => N 0
  | 9 => N 0
  | 10 => N 1
  | 11 => N 1
  | 12 => N 1
  | 13 => N 2
  | 15 => 8
  | 16 => 8
  | 17 => 8
  | 18 => 8
  | 19 => 8
  | 20 => 8
  | 22 => 6
  | 23 => 6
  | 24 => 6
  | 25 => 6
  | 26 => 6
  | 27 => 6
  | 28 => N 4
  | 29 => N 4
  | 30 => N 5
  | 31 => N 5
  | 32 => N 5
  | 33 => 3
  | 34 => la
  | 35 => N 6 + 1
  | _ => 0
def prM (N : Nat → Nat) (lb a : Nat) : Nat := match a with
  | 4 => N 0
  | 5 => N 0
  | 8 => N 1
  | 9 => N 1
  | 10 => N 1
  | 13 => N 2
  | 15 => N 7
  | 16 => N 7
  | 17 => N 7
  | 19 => 36
  | 24 => N 4
  | 25 => N 4
  | 27 => N 5
  | 28 => N 5
  | 29 => N 5
  | 30 => 1
  | 31 => 1
  | 32 => 1
  | 33 => 1
  | 35 => N 6
  | 36 => N 6
  | 37 => lb
  | 38 => lb
  | _ => 0
section PLN
variable {y : Bool} {N : Nat → Nat} {la lb : Nat} {C M C' M' : tI} {J J' : tJ}
theorem ndS_eq {b s q : Nat} : ∀ n, (∀ k, k < n → M' 15 (24 * b + k) = M 15 (24 * b + k) ∧ M' 16 (24 * b + k) = M 16 (24 * b + k) ∧ M' 17 (24 * b + k) = M 17 (24 * b + k)) → ndS M' b s q n = ndS M b s q n := by
  intro n
  induction n with
  | zero => intro _; rfl
  | succ n ih =>
    intro h
    obtain ⟨h1, h2, h3⟩ := h n (by omega)
    unfold ndS nd1
    rw [ih (fun k hk => h k (by omega)), h1, h2, h3]
theorem six {s : Nat} (h : s < 6) : s = 0 ∨ s = 1 ∨ s = 2 ∨ s = 3 ∨ s = 4 ∨ s = 5 := by omega
theorem PG.fr (h : PG y N la lb C M J) (n2 : N 2 ≤ 6) (hC : ∀ o k, o ≤ 35 → k < prC N la o → C' (tc_P y + o) k = C (tc_P y + o) k) (hM : ∀ a k, 2 ≤ a → a ≤ 38 → k < prM N lb a → M' a (sdd a * xb y + k) = M a (sdd a * xb y + k)) (h50 : M' 0 50 = M 0 50) (hJ : ∀ q k, q < 5 → k < N q → J' (jk q) (kx q * xb y + k) = J (jk q) (kx q * xb y + k)) : PG y N la lb C' M' J' := by
  obtain ⟨h1, h2, h3, h4, h5, h6, h7, h8, h9, h10⟩ := h
  refine ⟨?_, ?_, ?_, ?_, ?_, ?_, ?_, ?_, ?_, ?_⟩
  · intro q k hq hk
    rw [hJ q k hq hk]
    have e : C' (tc_P y + 3 + q) k = C (tc_P y + 3 + q) k := by
      rcases q5 hq with rfl | rfl | rfl | rfl | rfl
      · exact hC 3 k (by omega) hk
      · exact hC 4 k (by omega) hk
      · exact hC 5 k (by omega) hk
      · exact hC 6 k (by omega) hk
      · exact hC 7 k (by omega) hk
    rw [e]; exact h1 q k hq hk
  · intro k hk
    have a1 : M' 4 (6 * xb y + k) = M 4 (6 * xb y + k) := hM 4 k (by omega) (by omega) hk
    have a2 : M' 5 (6 * xb y + k) = M 5 (6 * xb y + k) := hM 5 k (by omega) (by omega) hk
    rw [hC 8 k (by omega) hk, hC 9 k (by omega) hk, a1, a2]; exact h2 k hk
  · intro k hk
    have a1 : M' 8 (8 * xb y + k) = M 8 (8 * xb y + k) := hM 8 k (by omega) (by omega) hk
    have a2 : M' 9 (8 * xb y + k) = M 9 (8 * xb y + k) := hM 9 k (by omega) (by omega) hk
    have a3 : M' 10 (8 * xb y + k) = M 10 (8 * xb y + k) := hM 10 k (by omega) (by omega) hk
    rw [hC 10 k (by omega) hk, hC 11 k (by omega) hk, hC 12 k (by omega) hk, a1, a2, a3]; exact h3 k hk
  · intro k hk
    have a1 : M' 13 (6 * xb y + k) = M 13 (6 * xb y + k) := hM 13 k (by omega) (by omega) hk
    rw [hC 13 k (by omega) hk, a1]; exact h4 k hk
  · have a1 : ∀ k, k < N 7 → M' 15 (24 * xb y + k) = M 15 (24 * xb y + k) := fun k hk => hM 15 k (by omega) (by omega) hk
    have a2 : ∀ k, k < N 7 → M' 16 (24 * xb y + k) = M 16 (24 * xb y + k) := fun k hk => hM 16 k (by omega) (by omega) hk
    have a3 : ∀ k, k < N 7 → M' 17 (24 * xb y + k) = M 17 (24 * xb y + k) := fun k hk => hM 17 k (by omega) (by omega) hk
    refine ⟨fun s q hs hq => ?_, fun k hk => ?_, fun k l hk hl => ?_⟩
    · have e : C' (tc_P y + 15 + s) q = C (tc_P y + 15 + s) q := by
        rcases six hs with rfl | rfl | rfl | rfl | rfl | rfl
        · exact hC 15 q (by omega) hq
        · exact hC 16 q (by omega) hq
        · exact hC 17 q (by omega) hq
        · exact hC 18 q (by omega) hq
        · exact hC 19 q (by omega) hq
        · exact hC 20 q (by omega) hq
      rw [e, ndS_eq (M := M) (N 7) (fun k hk => ⟨a1 k hk, a2 k hk, a3 k hk⟩)]
      exact h5.1 s q hs hq
    · rw [a1 k hk, a2 k hk, a3 k hk]; exact h5.2.1 k hk
    · rw [a1 k (by omega), a3 k (by omega), a1 l hl, a3 l hl]; exact h5.2.2 k l hk hl
  · have e : ∀ a c, a < 6 → c < 6 → C' (tc_P y + 22 + a) c = C (tc_P y + 22 + a) c := by
      intro a c ha hc
      rcases six ha with rfl | rfl | rfl | rfl | rfl | rfl
      · exact hC 22 c (by omega) hc
      · exact hC 23 c (by omega) hc
      · exact hC 24 c (by omega) hc
      · exact hC 25 c (by omega) hc
      · exact hC 26 c (by omega) hc
      · exact hC 27 c (by omega) hc
    refine ⟨fun a c ha hc hh => ?_, fun a c ha hc => ?_⟩
    · rw [e a c ha hc]; exact h6.1 a c ha hc hh
    · have a1 : M' 19 (6 * (6 * xb y + a) + c) = M 19 (6 * (6 * xb y + a) + c) := by
        have := hM 19 (6 * a + c) (by omega) (by omega) (show 6 * a + c < 36 by omega)
        have e2 : sdd 19 * xb y + (6 * a + c) = 6 * (6 * xb y + a) + c := by show 36 * xb y + (6 * a + c) = _; omega
        rw [e2] at this; exact this
      rw [e a c (by omega) (by omega), a1]; exact h6.2 a c ha hc
  · intro k hk
    have a1 : M' 24 (8 * xb y + k) = M 24 (8 * xb y + k) := hM 24 k (by omega) (by omega) hk
    have a2 : M' 25 (8 * xb y + k) = M 25 (8 * xb y + k) := hM 25 k (by omega) (by omega) hk
    rw [hC 28 k (by omega) hk, hC 29 k (by omega) hk, a1, a2]; exact h7 k hk
  · intro k hk
    have a1 : M' 27 (8 * xb y + k) = M 27 (8 * xb y + k) := hM 27 k (by omega) (by omega) hk
    have a2 : M' 28 (8 * xb y + k) = M 28 (8 * xb y + k) := hM 28 k (by omega) (by omega) hk
    have a3 : M' 29 (8 * xb y + k) = M 29 (8 * xb y + k) := hM 29 k (by omega) (by omega) hk
    rw [hC 30 k (by omega) hk, hC 31 k (by omega) hk, hC 32 k (by omega) hk, a1, a2, a3]; exact h8 k hk
  · have e0 : ∀ k, k < 20 → C' (tc_P y) k = C (tc_P y) k := fun k hk => hC 0 k (by omega) hk
    have e1 : ∀ a, a = 30 ∨ a = 31 ∨ a = 32 ∨ a = 33 → M' a (xb y) = M a (xb y) := by
      intro a ha
      have key : sdd a * xb y + 0 = xb y := by rcases ha with rfl | rfl | rfl | rfl <;> exact Nat.one_mul _
      have := hM a 0 (by omega) (by omega) (by rcases ha with rfl | rfl | rfl | rfl <;> exact Nat.one_pos)
      rw [key] at this; exact this
    unfold gZz at h9 ⊢
    rw [e0 16 (by omega), e0 17 (by omega), e0 18 (by omega), e0 19 (by omega), e1 30 (by omega), e1 31 (by omega), e1 32 (by omega), e1 33 (by omega)]
    exact h9
  · obtain ⟨l1, l2, l3, l4⟩ := h10
    refine ⟨?_, h50.trans l2, fun z => ?_, fun k hk => ?_⟩
    · rw [hC 33 2 (by omega) (show 2 < 3 by omega)]; exact l1
    · rw [hC 35 (N 6) (by omega) (show N 6 < N 6 + 1 by omega)]; exact l3 z
    · obtain ⟨A, B, s, f, b1, b2, b3, b4, b5, b6, b7, b8, b9⟩ := l4 k hk
      have a1 : M' 35 (8 * xb y + k) = M 35 (8 * xb y + k) := hM 35 k (by omega) (by omega) hk
      have a2 : M' 36 (8 * xb y + k) = M 36 (8 * xb y + k) := hM 36 k (by omega) (by omega) hk
      refine ⟨A, B, s, f, ?_, ?_, b3, ?_, ?_, b6, fun i hi => ?_, fun i hi => ?_, b9⟩
      · rw [hC 35 k (by omega) (show k < N 6 + 1 by omega)]; exact b1
      · rw [hC 35 (k + 1) (by omega) (show k + 1 < N 6 + 1 by omega)]; exact b2
      · rw [a1]; exact b4
      · rw [a2]; exact b5
      · rw [hC 34 (s + i) (by omega) (show s + i < la by omega)]; exact b7 i hi
      · have a3 : M' 37 (1600 * xb y + (f + i)) = M 37 (1600 * xb y + (f + i)) := hM 37 (f + i) (by omega) (by omega) (show f + i < lb by omega)
        have a4 : M' 38 (1600 * xb y + (f + i)) = M 38 (1600 * xb y + (f + i)) := hM 38 (f + i) (by omega) (by omega) (show f + i < lb by omega)
        rw [a3, a4]; exact b8 i hi
/-- what a state of reading has -/
def PL (x : Bool) (N : Nat → Nat) (la lb : Nat) (C M : tI) (J : tJ) : Prop := gCn (!x) N C M ∧ PG (!x) N la lb C M J ∧ M 0 51 = nI (xb (!x))
theorem cn9 (y : Bool) {N : Nat → Nat} (h : gCn y N C M) : rl_Pc y C M := by
  have e := fun q hq => h q hq
  obtain ⟨a0, b0, c0⟩ := h 0 (by omega)
  obtain ⟨a1, b1, c1⟩ := h 1 (by omega)
  obtain ⟨a2, b2, c2⟩ := h 2 (by omega)
  obtain ⟨a3, b3, c3⟩ := h 3 (by omega)
  obtain ⟨a4, b4, c4⟩ := h 4 (by omega)
  obtain ⟨a5, b5, c5⟩ := h 5 (by omega)
  obtain ⟨a6, b6, c6⟩ := h 6 (by omega)
  obtain ⟨a7, b7, c7⟩ := h 7 (by omega)
  obtain ⟨a8, b8, c8⟩ := h 8 (by omega)
  exact ⟨⟨a0.trans b0.symm, N 0, c0, b0⟩, ⟨a1.trans b1.symm, N 1, c1, b1⟩, ⟨a2.trans b2.symm, N 2, c2, b2⟩, ⟨a3.trans b3.symm, N 3, c3, b3⟩, ⟨a4.trans b4.symm, N 4, c4, b4⟩, ⟨a5.trans b5.symm, N 5, c5, b5⟩, ⟨a6.trans b6.symm, N 6, c6, b6⟩, ⟨a7.trans b7.symm, N 7, c7, b7⟩, ⟨a8.trans b8.symm, N 8, c8, b8⟩⟩
theorem gCn.cn (h : gCn y N C M) {q : Nat} (hq : q < 9) : Int32.toNatClampNeg (M (cqq q) (xb y)) = N q := by
  obtain ⟨_, b, c⟩ := h q hq
  have : mxx q ≤ 30 := by unfold mxx; split <;> omega
  rw [b]; exact nI_clamp (by omega)
theorem PL.nm {x : Bool} (h : PL x N la lb C M J) : Nm (!x) C M J := by
  obtain ⟨h1, h2, h3⟩ := h
  refine ⟨cn9 _ h1, ⟨fun k hk => ?_, fun k hk => ?_, fun k hk => ?_, fun k hk => ?_, fun k hk => ?_⟩, h3⟩
  · have e := h1.cn (q := 0) (by omega)
    exact h2.1 0 k (by omega) (by have e2 : Int32.toNatClampNeg (M 2 (xb (!x))) = N 0 := e; omega)
  · have e := h1.cn (q := 1) (by omega)
    exact h2.1 1 k (by omega) (by have e2 : Int32.toNatClampNeg (M 6 (xb (!x))) = N 1 := e; omega)
  · have e := h1.cn (q := 2) (by omega)
    exact h2.1 2 k (by omega) (by have e2 : Int32.toNatClampNeg (M 11 (xb (!x))) = N 2 := e; omega)
  · have e := h1.cn (q := 3) (by omega)
    exact h2.1 3 k (by omega) (by have e2 : Int32.toNatClampNeg (M 20 (xb (!x))) = N 3 := e; omega)
  · have e := h1.cn (q := 4) (by omega)
    exact h2.1 4 k (by omega) (by have e2 : Int32.toNatClampNeg (M 22 (xb (!x))) = N 4 := e; omega)
end PLN
