/-! choosing step by step, from left to right -/
theorem picks_f : ∀ l : List Nat, l.Pairwise (· < ·) → picks l = l.map (fun a => (a, l.filter (fun z => decide (z ≠ a)))) := by
  intro l
  induction l with
  | nil => intro _; rfl
  | cons a l ih =>
    intro h
    obtain ⟨h1, h2⟩ := List.pairwise_cons.mp h
    have e1 : (a :: l).filter (fun z => decide (z ≠ a)) = l := by
      rw [List.filter_cons_of_neg (by simp)]
      exact List.filter_eq_self.mpr (fun z hz => by have := h1 z hz; exact decide_eq_true (by omega))
    rw [picks_c, ih h2, List.map_cons, e1, List.map_map]
    congr 1
    refine List.map_congr_left (fun b hb => ?_)
    have := h1 b hb
    show (b, a :: l.filter (fun z => decide (z ≠ b))) = (b, (a :: l).filter (fun z => decide (z ≠ b)))
    have hd : decide (a ≠ b) = true := decide_eq_true (by omega)
    rw [List.filter_cons_of_pos (p := fun z => decide (z ≠ b)) hd]
theorem fold_lr {β γ : Type} (c : β → Nat) (f : γ → Option β) : ∀ (l : List γ) (acc : Option β), l.foldl (fun r a => cmb c r (f a)) acc = cmb c acc (l.foldr (fun a r => cmb c (f a) r) none) := by
  intro l
  induction l with
  | nil => intro acc; exact (cmb_n c acc).symm
  | cons a l ih => intro acc; rw [List.foldl_cons, ih, List.foldr_cons, cmb_a]
theorem bst_l (g : Nat → Nat → Nat) (k b : Nat) {l : List Nat} (h : l.Pairwise (· < ·)) : bst g (k + 1) b l = l.foldl (fun r a => cmb (cst' g b) r ((bst g k a (l.filter (fun z => decide (z ≠ a)))).map (fun t => a :: t))) none := by
  rw [bst_s, picks_f l h, List.foldr_map, fold_lr]
  rfl
theorem fl_pw (c : Nat → Bool) (j : Nat) : (fl c j).Pairwise (· < ·) := List.Pairwise.filter c List.pairwise_lt_range
/-- the rest of a set of sizes -/
def rst (A S : Nat) : List Nat := fl (fun i => A.testBit i && !S.testBit i) 6
theorem rst_n {A S a : Nat} (hS : S.testBit a = false) : (rst A S).filter (fun z => decide (z ≠ a)) = rst A (S ||| 2 ^ a) := by
  unfold rst fl
  rw [List.filter_filter]
  refine List.filter_congr (fun z _ => ?_)
  rw [Nat.testBit_or, pw_bit]
  by_cases e : a = z
  · subst e
    rw [decide_eq_true (show a = a from rfl), Bool.or_true]
    simp
  · have hd : decide (z ≠ a) = true := decide_eq_true (show z ≠ a from fun w => e w.symm)
    rw [decide_eq_false e, Bool.or_false, hd]
    rfl
/-- the best order of the rest -/
def bsr (g : Nat → Nat → Nat) (A S b : Nat) : Option (List Nat) := bst g (rst A S).length b (rst A S)
theorem rst_l {A S a : Nat} (hA : A.testBit a = true) (hS : S.testBit a = false) (h6 : a < 6) : (rst A S).length = (rst A (S ||| 2 ^ a)).length + 1 := by
  have hm : a ∈ rst A S := by
    unfold rst fl
    rw [List.mem_filter, List.mem_range, hA, hS]
    exact ⟨h6, rfl⟩
  have p := picks_f (rst A S) (fl_pw _ _)
  have m : (a, (rst A S).filter (fun z => decide (z ≠ a))) ∈ picks (rst A S) := by
    rw [p]; exact List.mem_map.mpr ⟨a, hm, rfl⟩
  have := picks_len _ _ m
  rw [rst_n hS] at this
  exact this.symm
