/-! sets as masks; packing -/
section MK
def sb (T S : Nat) : Prop := ∀ i, T.testBit i = true → S.testBit i = true
theorem sb_and {T S : Nat} : sb T S ↔ T &&& S = T := by
  refine ⟨fun h => Nat.eq_of_testBit_eq (fun i => ?_), fun h i hi => ?_⟩
  · rw [Nat.testBit_and]
    cases e : T.testBit i with
    | false => rfl
    | true => rw [h i e]; rfl
  · rw [← h, Nat.testBit_and, Bool.and_eq_true] at hi
    exact hi.2
theorem sb_le {T S : Nat} (h : sb T S) : T ≤ S := by
  rw [← sb_and.mp h]; exact Nat.and_le_right
theorem sb_rfl (S : Nat) : sb S S := fun _ h => h
theorem sb_tr {T S U : Nat} (h : sb T S) (h2 : sb S U) : sb T U := fun i hi => h2 i (h i hi)
theorem sb_x {T S : Nat} (h : sb T S) : sb (S ^^^ T) S := by
  intro i hi
  rw [Nat.testBit_xor] at hi
  cases e : T.testBit i with
  | false => rw [e] at hi; cases e2 : S.testBit i with
    | false => rw [e2] at hi; cases hi
    | true => rfl
  | true => exact h i e
theorem x_bit {T S : Nat} (h : sb T S) (i : Nat) : (S ^^^ T).testBit i = (S.testBit i && !T.testBit i) := by
  rw [Nat.testBit_xor]
  cases e : T.testBit i with
  | false => cases S.testBit i <;> rfl
  | true => rw [h i e]; rfl
theorem x_self (S : Nat) : S ^^^ S = 0 := Nat.xor_self S
theorem x_0 {T S : Nat} (h : S ^^^ T = 0) : S = T := by
  refine Nat.eq_of_testBit_eq (fun i => ?_)
  have := congrArg (fun z => Nat.testBit z i) h
  try dsimp only at this
  rw [Nat.testBit_xor, Nat.zero_testBit] at this
  cases e : T.testBit i <;> cases e2 : S.testBit i <;> rw [e, e2] at this <;> first | rfl | cases this
theorem x_lt {T S : Nat} (h : sb T S) (hT : T ≠ 0) : S ^^^ T < S := by
  refine Nat.lt_of_le_of_ne (sb_le (sb_x h)) (fun e => hT ?_)
  refine Nat.eq_of_testBit_eq (fun i => ?_)
  have := congrArg (fun z => Nat.testBit z i) e
  try dsimp only at this
  rw [Nat.testBit_xor] at this
  rw [Nat.zero_testBit]
  cases e : T.testBit i <;> cases e2 : S.testBit i <;> rw [e, e2] at this <;> first | rfl | cases this
theorem nz_bit {S : Nat} (h : S ≠ 0) : ∃ i, S.testBit i = true := by
  refine Classical.byContradiction (fun no => h (Nat.eq_of_testBit_eq (fun i => ?_)))
  rw [Nat.zero_testBit]
  exact Bool.eq_false_iff.mpr (fun w => no ⟨i, w⟩)
theorem bit_nz {S i : Nat} (h : S.testBit i = true) : S ≠ 0 := fun e => by rw [e, Nat.zero_testBit] at h; cases h
theorem pw_bit (i j : Nat) : (2 ^ i).testBit j = decide (i = j) := Nat.testBit_two_pow
theorem sb_pw {S i : Nat} (h : S.testBit i = true) : sb (2 ^ i) S := by
  intro j hj
  rw [pw_bit, decide_eq_true_eq] at hj
  rw [← hj]; exact h
theorem pw_nz (i : Nat) : 2 ^ i ≠ 0 := by have := Nat.two_pow_pos i; omega
/-- a weight over a set -/
def gS (w : Nat → Nat) (S : Nat) : Nat → Nat
  | 0 => 0
  | n + 1 => gS w S n + (if S.testBit n = true then w n else 0)
theorem gS_s (w : Nat → Nat) (S n : Nat) : gS w S (n + 1) = gS w S n + (if S.testBit n = true then w n else 0) := rfl
theorem gS_x {w : Nat → Nat} {T S : Nat} (h : sb T S) : ∀ n, gS w S n = gS w T n + gS w (S ^^^ T) n := by
  intro n
  induction n with
  | zero => rfl
  | succ n ih =>
    rw [gS_s, gS_s, gS_s, ih, x_bit h]
    cases e : T.testBit n with
    | false => cases S.testBit n <;> simp <;> omega
    | true => rw [h n e]; simp <;> omega
theorem gS_c {w : Nat → Nat} {S T : Nat} : ∀ n, (∀ j, j < n → S.testBit j = T.testBit j) → gS w S n = gS w T n := by
  intro n
  induction n with
  | zero => intro _; rfl
  | succ n ih => intro h; rw [gS_s, gS_s, ih (fun j hj => h j (by omega)), h n (by omega)]
theorem gS_0 (w : Nat → Nat) : ∀ n, gS w 0 n = 0 := by
  intro n
  induction n with
  | zero => rfl
  | succ n ih => rw [gS_s, ih, Nat.zero_testBit, if_neg (by decide)]
theorem gS_1 (w : Nat → Nat) {i : Nat} : ∀ n, gS w (2 ^ i) n = if i < n then w i else 0 := by
  intro n
  induction n with
  | zero => rw [if_neg (by omega)]; rfl
  | succ n ih =>
    rw [gS_s, ih, pw_bit]
    by_cases e : i = n
    · subst e; simp
    · rw [if_neg (show ¬ decide (i = n) = true by rw [decide_eq_true_eq]; exact e), Nat.add_zero]
      by_cases l : i < n
      · rw [if_pos l, if_pos (by omega)]
      · rw [if_neg l, if_neg (by omega)]
theorem gS_b {w : Nat → Nat} {c S : Nat} (h : ∀ j, w j ≤ c) : ∀ n, gS w S n ≤ c * n := by
  intro n
  induction n with
  | zero => exact Nat.le_refl _
  | succ n ih =>
    rw [gS_s, Nat.mul_add]
    have := h n
    split <;> omega
/-- S goes into at most k sheets -/
def bk (w : Nat → Nat) (n L : Nat) : Nat → Nat → Prop
  | 0, S => S = 0
  | k + 1, S => S = 0 ∨ ∃ T, T ≠ 0 ∧ sb T S ∧ gS w T n ≤ L ∧ bk w n L k (S ^^^ T)
variable {w : Nat → Nat} {n L : Nat}
theorem bk_s {k S : Nat} : bk w n L (k + 1) S ↔ (S = 0 ∨ ∃ T, T ≠ 0 ∧ sb T S ∧ gS w T n ≤ L ∧ bk w n L k (S ^^^ T)) := Iff.rfl
theorem bk_z : ∀ k, bk w n L k 0 := by
  intro k
  cases k with
  | zero => rfl
  | succ k => exact Or.inl rfl
theorem bk_up : ∀ k S, bk w n L k S → bk w n L (k + 1) S := by
  intro k
  induction k with
  | zero => intro S h; exact Or.inl h
  | succ k ih =>
    intro S h
    rcases bk_s.mp h with e | ⟨T, t1, t2, t3, t4⟩
    · exact Or.inl e
    · exact Or.inr ⟨T, t1, t2, t3, ih _ t4⟩
theorem bk_le {k : Nat} {S : Nat} (h : bk w n L k S) : ∀ j, bk w n L (k + j) S := by
  intro j
  induction j with
  | zero => exact h
  | succ j ih => exact bk_up _ _ ih
/-- the sheet that holds a given one may be taken first -/
theorem bk_ex {i : Nat} : ∀ k S, bk w n L (k + 1) S → S.testBit i = true → ∃ T, T.testBit i = true ∧ sb T S ∧ gS w T n ≤ L ∧ bk w n L k (S ^^^ T) := by
  intro k
  induction k with
  | zero =>
    intro S h hi
    rcases bk_s.mp h with e | ⟨T, t1, t2, t3, t4⟩
    · exact absurd e (bit_nz hi)
    · have e : S = T := x_0 t4
      exact ⟨T, by rw [← e]; exact hi, t2, t3, t4⟩
  | succ k ih =>
    intro S h hi
    rcases bk_s.mp h with e | ⟨T, t1, t2, t3, t4⟩
    · exact absurd e (bit_nz hi)
    · by_cases q : T.testBit i = true
      · exact ⟨T, q, t2, t3, t4⟩
      · have hi2 : (S ^^^ T).testBit i = true := by
          rw [x_bit t2, hi, Bool.eq_false_iff.mpr q]; rfl
        obtain ⟨U, u1, u2, u3, u4⟩ := ih _ t4 hi2
        refine ⟨U, u1, sb_tr u2 (sb_x t2), u3, Or.inr ⟨T, t1, fun j hj => ?_, t3, ?_⟩⟩
        · have hU : U.testBit j = false := by
            refine Bool.eq_false_iff.mpr (fun z => ?_)
            have := u2 j z
            rw [x_bit t2, hj] at this
            cases e : S.testBit j <;> rw [e] at this <;> cases this
          rw [x_bit (sb_tr u2 (sb_x t2)), hU, t2 j hj]; rfl
        · rw [Nat.xor_assoc, Nat.xor_comm U T, ← Nat.xor_assoc]; exact u4
def opt (w : Nat → Nat) (n L S c : Nat) : Prop := bk w n L c S ∧ ∀ k, bk w n L k S → c ≤ k
theorem opt_u {S c d : Nat} (h : opt w n L S c) (h2 : opt w n L S d) : c = d := Nat.le_antisymm (h.2 _ h2.1) (h2.2 _ h.1)
/-- each alone -/
theorem bk_one (hw : ∀ j, j < n → w j ≤ L) : ∀ m, m ≤ n → ∀ S, (∀ j, S.testBit j = true → j < m) → bk w n L (gS (fun _ => 1) S m) S := by
  intro m
  induction m with
  | zero =>
    intro _ S h
    refine Nat.eq_of_testBit_eq (fun i => ?_)
    rw [Nat.zero_testBit]
    exact Bool.eq_false_iff.mpr (fun z => by have := h i z; omega)
  | succ m ih =>
    intro hm S h
    rw [gS_s]
    by_cases q : S.testBit m = true
    · rw [if_pos q]
      have xs : ∀ j, (S ^^^ 2 ^ m).testBit j = true → j < m := by
        intro j hj
        rw [x_bit (sb_pw q), Bool.and_eq_true, pw_bit] at hj
        have := h j hj.1
        by_cases e : m = j
        · have z := hj.2; rw [decide_eq_true e] at z; cases z
        · omega
      have e : gS (fun _ => 1) S m = gS (fun _ => 1) (S ^^^ 2 ^ m) m := by
        refine gS_c m (fun j hj => ?_)
        rw [x_bit (sb_pw q), pw_bit, decide_eq_false (by omega)]
        cases S.testBit j <;> rfl
      rw [e]
      refine Or.inr ⟨2 ^ m, pw_nz m, sb_pw q, ?_, ih (by omega) _ xs⟩
      rw [gS_1, if_pos (by omega)]; exact hw m (by omega)
    · rw [if_neg q, Nat.add_zero]
      refine ih (by omega) S (fun j hj => ?_)
      have := h j hj
      by_cases e : j = m
      · subst e; exact absurd hj q
      · omega
end MK
