/-! loops: the pattern -/
/-- the parts of p in the first n lots that are fit -/
def m_fit (I : Nat → Nat → Int32) (b : Int32) : Prop := I 4 (6 * I 0 12 + I 48 b.toNatClampNeg).toNatClampNeg ≤ I 0 65 - I 50 b.toNatClampNeg ∧ I 0 65 - I 50 b.toNatClampNeg ≤ I 5 (6 * I 0 12 + I 48 b.toNatClampNeg).toNatClampNeg
/-- what lot l gives to the stock of p -/
def m_stk1 (I : Nat → Nat → Int32) (p : Int32) (l : Nat) : Int32 := if I 51 l = p then (if am_b (I 4 (6 * I 0 12 + I 48 (I 52 l).toNatClampNeg).toNatClampNeg ≤ I 0 65 - I 50 (I 52 l).toNatClampNeg ∧ I 0 65 - I 50 (I 52 l).toNatClampNeg ≤ I 5 (6 * I 0 12 + I 48 (I 52 l).toNatClampNeg).toNatClampNeg) = 0 then 0 else I 53 l) else 0
def m_stk (I : Nat → Nat → Int32) (p : Int32) : Nat → Int32
  | 0 => 0
  | n + 1 => m_stk I p n + m_stk1 I p n
theorem m_stockOf_loop (d : Nat) (I : Nat → Nat → Int32) (J : Nat → Nat → Int64) (p : Int32) (nl : Nat) (hl : I 0 70 = nI nl) (hn : nl ≤ 40) (hb : ∀ l, l < nl → am_in (I 52 l) 24 ∧ am_in (6 * I 0 12 + I 48 (I 52 l).toNatClampNeg) 12) : ∀ k l, l + k = nl → am_ev (d + 3) 235 4 [.ref 0, .int p, .int (m_stk I p l), .int (nI l)] [] (I, J, tm_R, tm_S, 77, 21637) = some (some (.int (m_stk I p nl)), (I, J, tm_R, tm_S, 77, 21637)) := by
  intro k
  induction k with
  | zero =>
    intro l h
    obtain rfl : l = nl := by omega
    rw [b235_4, hl, if_pos (nI_le (Nat.le_refl _) (by omega))]
  | succ k ih =>
    intro l h
    have hlt : l < nl := by omega
    have hc : (nI l).toNatClampNeg = l := nI_clamp (by omega)
    have hi : am_in (nI l) 40 := am_inI (by omega) (by omega)
    have h2 := ih (l + 1) (by omega)
    have e1 : m_stk I p (l + 1) = m_stk I p l + m_stk1 I p l := rfl
    rw [e1, nI_succ] at h2
    rw [b235_4, hl, if_neg (nI_ge hlt (by omega)), if_pos hi]
    simp only [hc]
    unfold m_stk1 at h2
    by_cases hp : I 51 l = p
    · rw [if_pos hp] at h2 ⊢
      rw [if_pos hi, m_isFit d I J (I 52 l) (hb l hlt).1 (hb l hlt).2, am_call_s, am_toL, b235_33]
      by_cases hf : am_b (I 4 (6 * I 0 12 + I 48 (I 52 l).toNatClampNeg).toNatClampNeg ≤ I 0 65 - I 50 (I 52 l).toNatClampNeg ∧ I 0 65 - I 50 (I 52 l).toNatClampNeg ≤ I 5 (6 * I 0 12 + I 48 (I 52 l).toNatClampNeg).toNatClampNeg) = 0
      · rw [if_pos hf] at h2 ⊢; exact h2
      · rw [if_neg hf] at h2 ⊢
        rw [if_pos hi]
        simp only [hc]
        exact h2
    · rw [if_neg hp] at h2 ⊢; exact h2
