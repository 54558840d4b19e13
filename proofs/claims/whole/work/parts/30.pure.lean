/-! small things of every method theorem -/
/-- a truth as Java has it -/
def am_b (p : Prop) [Decidable p] : Int32 := if p then 1 else 0
theorem am_b01 (p : Prop) [Decidable p] : am_b p = 0 ∨ am_b p = 1 := by unfold am_b; split <;> simp
theorem am_call_s (r : Option Value) (M : am_M) (k : Option Value → am_M → am_O) : am_call (some (r, M)) k = k r M := rfl
theorem am_toL (v : Value) (l : List Value) : (some v).toList ++ l = v :: l := rfl
theorem am_toN (l : List Value) : (none : Option Value).toList ++ l = l := rfl
theorem am_inI {j n : Nat} (h : j < n) (hn : n < 2 ^ 31) : am_in (nI j) n := nI_in h hn
theorem m_is (d : Nat) (I : Nat → Nat → Int32) (J : Nat → Nat → Int64) (v a b : Int32) : am_G (am_ev (d + 1)) 157 [.int v, .int a, .int b] (I, J, tm_R, tm_S, 77, 21637) = some (some (.int (am_b (a ≤ v ∧ v ≤ b))), (I, J, tm_R, tm_S, 77, 21637)) := by
  rw [b157_0]
  unfold am_b
  by_cases h1 : v < a
  · rw [if_pos h1, if_neg (fun q => absurd q.1 (Int32.not_le.mpr h1))]
  · rw [if_neg h1]
    by_cases h2 : b < v
    · rw [if_pos h2, if_neg (fun q => absurd q.2 (Int32.not_le.mpr h2))]
    · rw [if_neg h2, if_pos ⟨Int32.not_lt.mp h1, Int32.not_lt.mp h2⟩]
theorem m_age (d : Nat) (I : Nat → Nat → Int32) (J : Nat → Nat → Int64) (b : Int32) (hb : am_in b 24) : am_G (am_ev (d + 1)) 219 [.ref 0, .int b] (I, J, tm_R, tm_S, 77, 21637) = some (some (.int (I 0 65 - I 50 b.toNatClampNeg)), (I, J, tm_R, tm_S, 77, 21637)) := by
  rw [b219_0, if_pos hb]
theorem m_mix6 (d : Nat) (I : Nat → Nat → Int32) (J : Nat → Nat → Int64) (k : Int32) : am_G (am_ev (d + 1)) 214 [.ref 0, .int k] (I, J, tm_R, tm_S, 77, 21637) = some (some (.int (6 * I 0 12 + k)), (I, J, tm_R, tm_S, 77, 21637)) := by
  rw [b214_0]
theorem m_isFit (d : Nat) (I : Nat → Nat → Int32) (J : Nat → Nat → Int64) (b : Int32) (hb : am_in b 24) (hm : am_in (6 * I 0 12 + I 48 b.toNatClampNeg) 12) : am_G (am_ev (d + 2)) 220 [.ref 0, .int b] (I, J, tm_R, tm_S, 77, 21637) = some (some (.int (am_b (I 4 (6 * I 0 12 + I 48 b.toNatClampNeg).toNatClampNeg ≤ I 0 65 - I 50 b.toNatClampNeg ∧ I 0 65 - I 50 b.toNatClampNeg ≤ I 5 (6 * I 0 12 + I 48 b.toNatClampNeg).toNatClampNeg))), (I, J, tm_R, tm_S, 77, 21637)) := by
  rw [b220_0, m_age _ _ _ _ hb, am_call_s, am_toL, b220_5, if_pos hb, m_mix6, am_call_s, am_toL, b220_19, if_pos hm, if_pos hb, m_mix6, am_call_s, am_toL, b220_34, if_pos hm, m_is, am_call_s, am_toL, b220_38]
  exact if_pos (Or.inr ⟨rfl, am_b01 _⟩)
