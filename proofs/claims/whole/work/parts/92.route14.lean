/-! the two lists of sizes are one -/
theorem fl_up {c : Nat → Bool} {N : Nat} : ∀ m, (∀ s, N ≤ s → s < N + m → c s = false) → fl c (N + m) = fl c N := by
  intro m
  induction m with
  | zero => intro _; rfl
  | succ m ih =>
    intro h
    rw [← Nat.add_assoc, fl_s, if_neg (by rw [h (N + m) (by omega) (by omega)]; decide)]
    exact ih (fun s h1 h2 => h s h1 (by omega))
theorem fl_cg {c e : Nat → Bool} {N : Nat} (h : ∀ s, s < N → c s = e s) : fl c N = fl e N := by
  unfold fl
  exact List.filter_congr (fun s hs => h s (List.mem_range.mp hs))
section RTE
variable {x : Bool} {C M : tI} {J Jc : tJ}
theorem Rl.oAN (h : Rl x C M J) : ∀ i, (oA M x (Int32.toNatClampNeg (M 26 (xb x)))).testBit i = true → i < Int32.toNatClampNeg (M 11 (xb x)) := by
  intro i hi
  obtain ⟨k, hk, e⟩ := (oA_bit M x i _).mp hi
  have := (h.P.2.2.2.2.2.2.2.1.2 k hk).2.2.2.2.1
  omega
theorem Rl.rsE (h : Rl x C M J) : fl (askd M x) (Int32.toNatClampNeg (M 11 (xb x))) = rst (oA M x (Int32.toNatClampNeg (M 26 (xb x)))) 0 := by
  have b11 := h.n11.2.cl (by omega)
  have e1 : fl (askd M x) (Int32.toNatClampNeg (M 11 (xb x))) = fl (fun i => (oA M x (Int32.toNatClampNeg (M 26 (xb x)))).testBit i && !Nat.testBit 0 i) (Int32.toNatClampNeg (M 11 (xb x))) := fl_cg (fun s hs => by
    rw [h.akE (by omega), Nat.zero_testBit]
    exact (Bool.and_true _).symm)
  rw [e1]
  unfold rst
  have := fl_up (c := fun i => (oA M x (Int32.toNatClampNeg (M 26 (xb x)))).testBit i && !Nat.testBit 0 i) (N := Int32.toNatClampNeg (M 11 (xb x))) (6 - Int32.toNatClampNeg (M 11 (xb x))) (fun s h1 h2 => by
    have z : (oA M x (Int32.toNatClampNeg (M 26 (xb x)))).testBit s = false := Bool.eq_false_iff.mpr (fun w => by have := h.oAN s w; omega)
    show ((oA M x (Int32.toNatClampNeg (M 26 (xb x)))).testBit s && !Nat.testBit 0 s) = false
    rw [z]; rfl)
  rw [show Int32.toNatClampNeg (M 11 (xb x)) + (6 - Int32.toNatClampNeg (M 11 (xb x))) = 6 by omega] at this
  exact this.symm
end RTE
