/-! a library: numbers, reads over writes -/
abbrev tI : Type := Nat → Nat → Int32
abbrev tJ : Type := Nat → Nat → Int64
theorem u2_c {α : Type} {I : Nat → Nat → α} {k j a b : Nat} {x : α} (h : a ≠ k) : am_u2 I k j x a b = I a b := if_neg (fun q => h q.1)
theorem u2_p {α : Type} {I : Nat → Nat → α} {k j a b : Nat} {x : α} (h : b ≠ j) : am_u2 I k j x a b = I a b := if_neg (fun q => h q.2)
theorem u2_s {α : Type} {I : Nat → Nat → α} {k j : Nat} {x : α} : am_u2 I k j x k j = x := if_pos ⟨rfl, rfl⟩
theorem u2_e {α : Type} {I : Nat → Nat → α} {k j a b : Nat} {x : α} (h : a = k) (h2 : b = j) : am_u2 I k j x a b = x := if_pos ⟨h, h2⟩
/-- from 0 to n -/
def bd (v : Int32) (n : Nat) : Prop := ∃ k : Nat, k ≤ n ∧ v = nI k
theorem bd.inn {v : Int32} {n N : Nat} (h : bd v n) (hN : n < N) (hM : N < 2 ^ 31) : am_in v N := by
  obtain ⟨k, hk, rfl⟩ := h
  exact nI_in (Nat.lt_of_le_of_lt hk hN) hM
theorem bd.cl {v : Int32} {n : Nat} (h : bd v n) (hn : n < 2 ^ 31) : v.toNatClampNeg ≤ n := by
  obtain ⟨k, hk, rfl⟩ := h
  ((try simp (disch := omega) only [nI_clamp])); exact hk
theorem bd.eq {v : Int32} {n : Nat} (h : bd v n) (hn : n < 2 ^ 31) : v = nI v.toNatClampNeg := by
  obtain ⟨k, hk, rfl⟩ := h
  ((try simp (disch := omega) only [nI_clamp]))
theorem bd.mono {v : Int32} {n m : Nat} (h : bd v n) (hm : n ≤ m) : bd v m := by
  obtain ⟨k, hk, rfl⟩ := h
  exact ⟨k, by omega, rfl⟩
theorem bd_nI {k n : Nat} (h : k ≤ n) : bd (nI k) n := ⟨k, h, rfl⟩
theorem bd.nn {v : Int32} {n : Nat} (h : bd v n) (hn : n < 2 ^ 31) : ¬ v < 0 := by
  obtain ⟨k, hk, rfl⟩ := h
  exact nI_pos (by omega)
theorem am_inn {v : Int32} {n : Nat} (h : am_in v n) : ∃ k, k < n ∧ v = nI k := by
  have h0 : ¬ v < 0 := fun q => h (Or.inl q)
  obtain ⟨j, hj, rfl⟩ := nI_of h0
  refine ⟨j, ?_, rfl⟩
  have h1 : ¬ n ≤ (nI j).toNatClampNeg := fun q => h (Or.inr q)
  ((try simp (disch := omega) only [nI_clamp] at h1)); omega
theorem i_lt {x y : Int32} : x < y ↔ x.toInt < y.toInt := Int32.lt_iff_toInt_lt
theorem i_le {x y : Int32} : x ≤ y ↔ x.toInt ≤ y.toInt := Int32.le_iff_toInt_le
theorem i_eq {x y : Int32} : x = y ↔ x.toInt = y.toInt := Int32.toInt_inj.symm
theorem i_lo (x : Int32) : -2147483648 ≤ x.toInt := Int32.le_toInt x
theorem i_hi (x : Int32) : x.toInt < 2147483648 := Int32.toInt_lt x
/-- an index is wrong, or it is one -/
theorem i_cases (v : Int32) {n : Nat} (hn : n < 2 ^ 31) : (v < 0 ∨ nI n ≤ v) ∨ ∃ k, k < n ∧ v = nI k := by
  by_cases h0 : v < 0
  · exact Or.inl (Or.inl h0)
  · obtain ⟨j, hj, rfl⟩ := nI_of h0
    by_cases h1 : n ≤ j
    · exact Or.inl (Or.inr (nI_le h1 hj))
    · exact Or.inr ⟨j, by omega, rfl⟩
theorem nI_m1 (n : Nat) (h : 0 < n) : nI n - 1 = nI (n - 1) := by
  obtain ⟨k, rfl⟩ : ∃ k, n = k + 1 := ⟨n - 1, by omega⟩
  rw [nI_pred]; rfl
/-- is(v, 0, n - 1) -/
theorem is_in (v : Int32) {n : Nat} (hn : n < 2 ^ 31) : (0 ≤ v ∧ v ≤ nI n - 1) ↔ ∃ k, k < n ∧ v = nI k := by
  constructor
  · rintro ⟨h0, h1⟩
    have h0' : ¬ v < 0 := Int32.not_lt.mpr h0
    obtain ⟨j, hj, rfl⟩ := nI_of h0'
    by_cases hz : n = 0
    · subst hz
      exfalso
      have e : (nI 0 - 1 : Int32).toInt = -1 := by decide +kernel
      rw [i_le, e, nI_toInt hj] at h1
      omega
    · rw [nI_m1 n (by omega), nI_leI hj (by omega)] at h1
      exact ⟨j, by omega, rfl⟩
  · rintro ⟨k, hk, rfl⟩
    refine ⟨nI_pos' (by omega), ?_⟩
    rw [nI_m1 n (by omega), nI_leI (by omega) (by omega)]
    omega
theorem am_b1 {p : Prop} [Decidable p] (h : p) : am_b p = 1 := if_pos h
theorem am_b0 {p : Prop} [Decidable p] (h : ¬ p) : am_b p = 0 := if_neg h
theorem am_be {p : Prop} [Decidable p] : am_b p = 0 ↔ ¬ p := by
  by_cases h : p
  · rw [am_b1 h]; exact ⟨fun q => absurd q (by decide), fun q => absurd h q⟩
  · rw [am_b0 h]; exact ⟨fun _ => h, fun _ => rfl⟩
theorem am_bd {p q : Prop} [Decidable p] [Decidable q] (h : p ↔ q) : am_b p = am_b q := by
  by_cases hq : q
  · rw [am_b1 hq, am_b1 (h.mpr hq)]
  · rw [am_b0 hq, am_b0 (fun w => hq (h.mp w))]
theorem tc_P4 (x : Bool) : tc_P x = 4 ∨ tc_P x = 42 := by cases x <;> simp [tc_P]
theorem ret2 (p : Prop) [Decidable p] (M : am_M) : (if 2 = 1 ∨ (2 = 2 ∧ (am_b p = 0 ∨ am_b p = 1)) then some (some (.int (am_b p)), M) else none : am_O) = some (some (.int (am_b p)), M) := if_pos (Or.inr ⟨rfl, am_b01 p⟩)
/-! cells of the class by their kinds -/
theorem ts_b : ∀ k, k < 24 → tc_S (86 + k) = (1, 3) := by decide +kernel
theorem ts_l : ∀ k, k < 40 → tc_S (110 + k) = (4, 3) := by decide +kernel
theorem ts_t : ∀ k, k < 60 → tc_S (150 + 2 * k) = (10, 8) := by decide +kernel
theorem ts_w : ∀ k, k < 60 → tc_S (150 + 2 * k + 1) = (20, 8) := by decide +kernel
theorem ts_p : ∀ k, k < 4 → tc_S (270 + k) = (7, 3) := by decide +kernel
theorem tb_k {k : Nat} (h : k < 24) : (tc_S (86 + k)).1 = 1 ∧ 86 + k < 289 := ⟨by rw [ts_b k h], by omega⟩
theorem tl_k {k : Nat} (h : k < 40) : (tc_S (110 + k)).1 = 4 ∧ 110 + k < 289 := ⟨by rw [ts_l k h], by omega⟩
theorem tt_k {k : Nat} (h : k < 60) : (tc_S (150 + 2 * k)).1 = 10 ∧ 150 + 2 * k < 289 := ⟨by rw [ts_t k h], by omega⟩
theorem tp_k {k : Nat} (h : k < 4) : (tc_S (270 + k)).1 = 7 ∧ 270 + k < 289 := ⟨by rw [ts_p k h], by omega⟩
theorem ts_nm : ∀ (x : Bool) (k : Nat), k < 5 → tc_S (tc_P x + 3 + k) = (20, 8) := by decide +kernel
theorem ts_nd : ∀ (x : Bool) (k : Nat), k < 6 → tc_S (tc_P x + 15 + k) = (20, 8) := by decide +kernel
theorem ts_ch : ∀ (x : Bool) (k : Nat), k < 6 → tc_S (tc_P x + 22 + k) = (20, 6) := by decide +kernel
/-! loops -/
def lp {α : Type} (f : Nat → α → α) : Nat → α → α
  | 0, a => a
  | n + 1, a => f n (lp f n a)
theorem lp_run {α : Type} (E : α → Nat → am_O) (n : Nat) (f : Nat → α → α) (hs : ∀ a l, l < n → E a l = E (f l a) (l + 1)) (a : α) : E a 0 = E (lp f n a) n := by
  have key : ∀ k, k ≤ n → E a 0 = E (lp f k a) k := by
    intro k
    induction k with
    | zero => intro _; rfl
    | succ k ih => intro h; rw [ih (by omega), hs _ k (by omega)]; rfl
  exact key n (Nat.le_refl _)
/-- the same with an invariant -/
theorem lp_inv {α : Type} (E : α → Nat → am_O) (P : Nat → α → Prop) (n : Nat) (f : Nat → α → α) (hs : ∀ a l, l < n → P l a → E a l = E (f l a) (l + 1) ∧ P (l + 1) (f l a)) (a : α) (h0 : P 0 a) : E a 0 = E (lp f n a) n ∧ P n (lp f n a) := by
  have key : ∀ k, k ≤ n → E a 0 = E (lp f k a) k ∧ P k (lp f k a) := by
    intro k
    induction k with
    | zero => intro _; exact ⟨rfl, h0⟩
    | succ k ih =>
      intro h
      obtain ⟨e, hp⟩ := ih (by omega)
      obtain ⟨e2, hp2⟩ := hs _ k (by omega) hp
      exact ⟨e.trans e2, hp2⟩
  exact key n (Nat.le_refl _)
/-- the first below n that is so -/
def fnd (c : Nat → Bool) : Nat → Nat → Option Nat
  | 0, _ => none
  | k + 1, l => if c l = true then some l else fnd c k (l + 1)
theorem fnd_run (E : Nat → am_O) (c : Nat → Bool) (R : Nat → am_O) (n : Nat) (hs : ∀ l, l < n → E l = if c l = true then R l else E (l + 1)) : ∀ k l, l + k = n → E l = match fnd c k l with
    | some j => R j
    | none => E n := by
  intro k
  induction k with
  | zero => intro l h; obtain rfl : l = n := by omega
            rfl
  | succ k ih =>
    intro l h
    rw [hs l (by omega)]
    unfold fnd
    by_cases q : c l = true
    · rw [if_pos q, if_pos q]
    · rw [if_neg q, if_neg q, ih (l + 1) (by omega)]
theorem fnd_congr {c c' : Nat → Bool} : ∀ k l, (∀ j, l ≤ j → j < l + k → c j = c' j) → fnd c k l = fnd c' k l := by
  intro k
  induction k with
  | zero => intro l _; rfl
  | succ k ih =>
    intro l h
    unfold fnd
    rw [h l (Nat.le_refl _) (by omega), ih (l + 1) (fun j h1 h2 => h j (by omega) (by omega))]
theorem fnd_some {c : Nat → Bool} : ∀ k l j, fnd c k l = some j → l ≤ j ∧ j < l + k ∧ c j = true ∧ ∀ i, l ≤ i → i < j → c i = false := by
  intro k
  induction k with
  | zero => intro l j h; cases h
  | succ k ih =>
    intro l j h
    unfold fnd at h
    by_cases q : c l = true
    · rw [if_pos q] at h; cases h; exact ⟨Nat.le_refl _, by omega, q, fun i h1 h2 => by omega⟩
    · rw [if_neg q] at h
      obtain ⟨h1, h2, h3, h4⟩ := ih (l + 1) j h
      refine ⟨by omega, by omega, h3, fun i hi hj => ?_⟩
      by_cases e : i = l
      · subst e; exact Bool.eq_false_iff.mpr q
      · exact h4 i (by omega) hj
theorem fnd_none {c : Nat → Bool} : ∀ k l, fnd c k l = none → ∀ i, l ≤ i → i < l + k → c i = false := by
  intro k
  induction k with
  | zero => intro l _ i h1 h2; omega
  | succ k ih =>
    intro l h i h1 h2
    unfold fnd at h
    by_cases q : c l = true
    · rw [if_pos q] at h; cases h
    · rw [if_neg q] at h
      by_cases e : i = l
      · subst e; exact Bool.eq_false_iff.mpr q
      · exact ih (l + 1) h i (by omega) (by omega)
theorem lp_congr {α : Type} {f g : Nat → α → α} : ∀ n a, (∀ l a, l < n → f l a = g l a) → lp f n a = lp g n a := by
  intro n
  induction n with
  | zero => intro a _; rfl
  | succ n ih => intro a h; unfold lp; rw [ih a (fun l a hl => h l a (by omega)), h n _ (by omega)]
