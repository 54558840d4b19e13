/-! the best order of the rest, by its first -/
theorem rst_mem {A S a : Nat} : a ∈ rst A S ↔ a < 6 ∧ A.testBit a = true ∧ S.testBit a = false := by
  unfold rst fl
  rw [List.mem_filter, List.mem_range, Bool.and_eq_true, Bool.not_eq_true']
theorem foldl_cg {β γ : Type} {f g : β → γ → β} : ∀ (l : List γ) (acc : β), (∀ r a, a ∈ l → f r a = g r a) → l.foldl f acc = l.foldl g acc := by
  intro l
  induction l with
  | nil => intro acc _; rfl
  | cons a l ih =>
    intro acc h
    rw [List.foldl_cons, List.foldl_cons, h acc a (List.mem_cons_self ..)]
    exact ih _ (fun r b hb => h r b (List.mem_cons_of_mem _ hb))
def cnd (g : Nat → Nat → Nat) (A S a : Nat) : Option (List Nat) := (bsr g A (S ||| 2 ^ a) a).map (fun t => a :: t)
theorem bsr_l (g : Nat → Nat → Nat) {A S : Nat} (b : Nat) (h : rst A S ≠ []) : bsr g A S b = (rst A S).foldl (fun r a => cmb (cst' g b) r (cnd g A S a)) none := by
  have hp : ∃ k, (rst A S).length = k + 1 := by
    cases e : rst A S with
    | nil => exact absurd e h
    | cons a l => exact ⟨l.length, rfl⟩
  obtain ⟨k, hk⟩ := hp
  unfold bsr
  rw [hk, bst_l (l := rst A S) g k b (fl_pw _ _)]
  refine foldl_cg _ _ (fun r a ha => ?_)
  obtain ⟨a1, a2, a3⟩ := rst_mem.mp ha
  have e : (rst A (S ||| 2 ^ a)).length = k := by have := rst_l a2 a3 a1; omega
  unfold cnd bsr
  rw [rst_n a3, e]
theorem bsr_0 (g : Nat → Nat → Nat) {A S : Nat} (b : Nat) (h : rst A S = []) : bsr g A S b = some [] := by
  unfold bsr
  rw [h]; rfl
/-- what a scan up to j has found -/
def acj (g : Nat → Nat → Nat) (A S b j : Nat) : Option (List Nat) := (fl (fun i => A.testBit i && !S.testBit i) j).foldl (fun r a => cmb (cst' g b) r (cnd g A S a)) none
theorem acj_s (g : Nat → Nat → Nat) (A S b j : Nat) : acj g A S b (j + 1) = if (A.testBit j && !S.testBit j) = true then cmb (cst' g b) (acj g A S b j) (cnd g A S j) else acj g A S b j := by
  unfold acj
  rw [fl_s]
  by_cases q : (A.testBit j && !S.testBit j) = true
  · rw [if_pos q, if_pos q, List.foldl_append]; rfl
  · rw [if_neg q, if_neg q]
theorem acj_6 (g : Nat → Nat → Nat) {A S : Nat} (b : Nat) (h : rst A S ≠ []) : acj g A S b 6 = bsr g A S b := (bsr_l g b h).symm
