/-! bounds of the best order; the hours do not look at the table -/
theorem picks_mem : ∀ (l : List Nat) p, p ∈ picks l → p.1 ∈ l ∧ ∀ z ∈ p.2, z ∈ l := by
  intro l
  induction l with
  | nil => intro p h; cases h
  | cons a l ih =>
    intro p h
    rw [picks_c] at h
    rcases List.mem_cons.mp h with e | e
    · rw [e]; exact ⟨List.mem_cons_self .., fun z hz => List.mem_cons_of_mem _ hz⟩
    · obtain ⟨q, hq, rfl⟩ := List.mem_map.mp e
      obtain ⟨h1, h2⟩ := ih q hq
      refine ⟨List.mem_cons_of_mem _ h1, fun z hz => ?_⟩
      rcases List.mem_cons.mp hz with w | w
      · rw [w]; exact List.mem_cons_self ..
      · exact List.mem_cons_of_mem _ (h2 z w)
theorem perms_mem : ∀ k (l t : List Nat), t ∈ perms k l → ∀ z ∈ t, z ∈ l := by
  intro k
  induction k with
  | zero => intro l t h z hz; rw [List.mem_singleton.mp h] at hz; cases hz
  | succ k ih =>
    intro l t h z hz
    rw [perms_s] at h
    obtain ⟨p, hp, hm⟩ := List.mem_flatMap.mp h
    obtain ⟨u, hu, rfl⟩ := List.mem_map.mp hm
    obtain ⟨h1, h2⟩ := picks_mem l p hp
    rcases List.mem_cons.mp hz with w | w
    · rw [w]; exact h1
    · exact h2 z (ih p.2 u hu z w)
theorem bsr_q {g : Nat → Nat → Nat} {A S b : Nat} {q : List Nat} (h : bsr g A S b = some q) : q.length = (rst A S).length ∧ ∀ z ∈ q, z ∈ rst A S := by
  unfold bsr at h
  rw [← fm_bst] at h
  have m := fm_mem _ _ _ h
  exact ⟨perms_len _ _ rfl q m, perms_mem _ _ _ m⟩
theorem bsr_b {g : Nat → Nat → Nat} {A S b N : Nat} {q : List Nat} (hg : ∀ a c, a = 6 ∨ a < N → c < N → g a c ≤ 99) (hA : ∀ i, A.testBit i = true → i < N) (hb : b = 6 ∨ b < N) (h : bsr g A S b = some q) : cst' g b q ≤ 594 := by
  obtain ⟨h1, h2⟩ := bsr_q h
  have c := cst_b hg q b hb (fun z hz => hA z (rst_mem.mp (h2 z hz)).2.1)
  have l : (rst A S).length ≤ 6 := fl_len _ 6
  have := Nat.mul_le_mul_left 99 l
  rw [h1] at c
  omega
theorem gM_c {M D : tI} {x : Bool} (h : ∀ b, D 19 b = M 19 b) : gM D x = gM M x := by
  funext a b
  unfold gM chg
  rw [h]
