/-! the model's sizes asked for -/
section RT7
variable {x : Bool} {C M : tI} {J Jc : tJ}
def oA (M : tI) (x : Bool) : Nat → Nat
  | 0 => 0
  | k + 1 => oA M x k ||| 2 ^ Int32.toNatClampNeg (M 27 (8 * xb x + k))
theorem oA_s (M : tI) (x : Bool) (k : Nat) : oA M x (k + 1) = oA M x k ||| 2 ^ Int32.toNatClampNeg (M 27 (8 * xb x + k)) := rfl
theorem oA_bit (M : tI) (x : Bool) (s : Nat) : ∀ n, (oA M x n).testBit s = true ↔ ∃ k, k < n ∧ Int32.toNatClampNeg (M 27 (8 * xb x + k)) = s := by
  intro n
  induction n with
  | zero => exact ⟨(fun h => by rw [show oA M x 0 = 0 from rfl, Nat.zero_testBit] at h; cases h), (fun ⟨k, hk, _⟩ => by omega)⟩
  | succ n ih =>
    rw [oA_s, Nat.testBit_or, pw_bit, Bool.or_eq_true, ih, decide_eq_true_eq]
    constructor
    · rintro (⟨k, hk, e⟩ | e)
      · exact ⟨k, by omega, e⟩
      · exact ⟨n, by omega, e⟩
    · rintro ⟨k, hk, e⟩
      by_cases z : k = n
      · subst z; exact Or.inr e
      · exact Or.inl ⟨k, by omega, e⟩
theorem Rl.oAl (h : Rl x C M J) : ∀ n, n ≤ Int32.toNatClampNeg (M 26 (xb x)) → oA M x n < 64 := by
  have po := h.P.2.2.2.2.2.2.2.1.2
  intro n
  induction n with
  | zero => intro _; show 0 < 64; omega
  | succ n ih =>
    intro hn
    have b := (po n (by omega)).2.2.2.1.cl (by omega)
    rw [oA_s]
    have p : 2 ^ Int32.toNatClampNeg (M 27 (8 * xb x + n)) < 2 ^ 6 := Nat.pow_lt_pow_right (by omega) (by omega)
    exact Nat.or_lt_two_pow (n := 6) (ih (by omega)) p
theorem Rl.akM (h : Rl x C M J) (d : Nat) : am_G (am_ev (d + 2)) 262 [.ref 0] (M, J, tm_R, tm_S, 77, 21637) = some (some (.int (nI (oA M x (Int32.toNatClampNeg (M 26 (xb x)))))), (M, J, tm_R, tm_S, 77, 21637)) := by
  have hx := xb1 x
  have po := h.P.2.2.2.2.2.2.2.1.2
  have b26 := h.Pc.2.2.2.2.2.1.2.cl (by omega)
  have e26 := h.Pc.2.2.2.2.2.1.2.eq (by omega)
  have run : ∀ k, k ≤ Int32.toNatClampNeg (M 26 (xb x)) → am_ev (d + 2) 262 4 [.ref 0, .int (nI 0), .int (nI 0)] [] (M, J, tm_R, tm_S, 77, 21637) = am_ev (d + 2) 262 4 [.ref 0, .int (nI (oA M x k)), .int (nI k)] [] (M, J, tm_R, tm_S, 77, 21637) := by
    intro k
    induction k with
    | zero => intro _; rfl
    | succ k ih =>
      intro hk
      have gl : ¬ M 26 (xb x) ≤ nI k := by rw [e26]; exact nI_ge (by omega) (by omega)
      have i16 : am_in (nI (8 * xb x + k)) 16 := nI_in (by omega) (by omega)
      have c16 : (nI (8 * xb x + k)).toNatClampNeg = 8 * xb x + k := nI_clamp (by omega)
      have b5 := (po k (by omega)).2.2.2.1
      have l5 := b5.cl (by omega)
      have e1 : (1 : Int32) <<< (M 27 (8 * xb x + k) &&& 31) = nI (2 ^ Int32.toNatClampNeg (M 27 (8 * xb x + k))) := by
        have := nI_pw (i := Int32.toNatClampNeg (M 27 (8 * xb x + k))) (by omega)
        rw [← b5.eq (by omega)] at this
        exact this
      (rw [ih (by omega), b262_4, if_pos h.inB]; (try simp only [h.cB]); rw [if_neg gl, m_order8, am_call_s, am_toL, b262_28, h.ix8, if_pos i16])
      simp only [c16]
      rw [e1, nI_or, nI_1, ← oA_s]
  rw [b262_0]
  refine Eq.trans (run _ (Nat.le_refl _)) ?_
  have gl : M 26 (xb x) ≤ nI (Int32.toNatClampNeg (M 26 (xb x))) := by rw [← e26]; exact Int32.le_refl _
  (rw [b262_4, if_pos h.inB]; (try simp only [h.cB]); rw [if_pos gl])
theorem nsm_pos {f : Nat → Nat} : ∀ n, 0 < nsm f n ↔ ∃ k, k < n ∧ 0 < f k := by
  intro n
  induction n with
  | zero => exact ⟨(fun h => by cases h), (fun ⟨k, hk, _⟩ => by omega)⟩
  | succ n ih =>
    rw [nsm_s]
    constructor
    · intro h
      by_cases z : 0 < nsm f n
      · obtain ⟨k, hk, e⟩ := ih.mp z; exact ⟨k, by omega, e⟩
      · exact ⟨n, by omega, by omega⟩
    · rintro ⟨k, hk, e⟩
      by_cases z : k = n
      · subst z; omega
      · have := ih.mpr ⟨k, by omega, e⟩; omega
theorem Rl.akE (h : Rl x C M J) {s : Nat} (hs : s < 6) : askd M x s = (oA M x (Int32.toNatClampNeg (M 26 (xb x)))).testBit s := by
  have po := h.P.2.2.2.2.2.2.2.1.2
  have key : 0 < nsm (aqF M x s) (Int32.toNatClampNeg (M 26 (xb x))) ↔ (oA M x (Int32.toNatClampNeg (M 26 (xb x)))).testBit s = true := by
    rw [nsm_pos, oA_bit]
    constructor
    · rintro ⟨k, hk, e⟩
      refine ⟨k, hk, ?_⟩
      have l5 := (po k hk).2.2.2.1.cl (by omega)
      by_cases z : M 27 (8 * xb x + k) = nI s
      · rw [z]; exact nI_clamp (by omega)
      · have : aqF M x s k = 0 := if_neg z
        omega
    · rintro ⟨k, hk, e⟩
      have b5 := (po k hk).2.2.2.1
      have l1 := (po k hk).2.2.2.2.2.2.1
      refine ⟨k, hk, ?_⟩
      have : aqF M x s k = Int32.toNatClampNeg (M 28 (8 * xb x + k)) := if_pos (by rw [← e]; exact b5.eq (by omega))
      omega
  unfold askd
  cases e : (oA M x (Int32.toNatClampNeg (M 26 (xb x)))).testBit s with
  | true => exact decide_eq_true (key.mpr e)
  | false => exact decide_eq_false (fun w => by rw [key.mp w] at e; cases e)
end RT7
