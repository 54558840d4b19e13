/-! the class's next order -/
theorem set_g {l : List Nat} {a k v : Nat} (h : a < l.length) : (l.set a v).getD k 0 = if k = a then v else l.getD k 0 := by
  rw [List.getD_eq_getElem?_getD, List.getD_eq_getElem?_getD, List.getElem?_set]
  by_cases e : k = a
  · subst e; simp [h]
  · rw [if_neg (fun w => e w.symm), if_neg e]
theorem swp_l (p : List Nat) (a b : Nat) : (swp p a b).length = p.length := by
  unfold swp
  rw [List.length_set, List.length_set]
theorem swp_g {p : List Nat} {a b k : Nat} (ha : a < p.length) (hb : b < p.length) : (swp p a b).getD k 0 = if k = b then p.getD a 0 else if k = a then p.getD b 0 else p.getD k 0 := by
  unfold swp
  rw [set_g (by rw [List.length_set]; exact hb), set_g ha]
theorem nI_m1i (k : Nat) : nI k + Int32.ofInt (-1) = nI k - 1 := by
  have z : Int32.ofInt (-1) = -1 := rfl
  rw [z, ← Int32.sub_eq_add_neg]
section RT
variable {x : Bool} {C : tI} {J : tJ} {sv : Nat → Nat} {n : Nat} {p : List Nat}
def arr (C : tI) (sv : Nat → Nat) (p : List Nat) : Prop := ∀ k, k < p.length → C 285 k = nI (sv (p.getD k 0))
theorem c_swap (d : Nat) (J : tJ) (x : Bool) (h : arr C sv p) (h6 : p.length ≤ 6) {a b : Nat} (ha : a < p.length) (hb : b < p.length) : ∃ C', am_G (am_ev (d + 1)) 70 [.ref 283, .int (nI a), .int (nI b)] (C, J, (tc_R x), tc_S, 289, 11479) = some (none, (C', J, (tc_R x), tc_S, 289, 11479)) ∧ (∀ a b, a ≠ 285 → C' a b = C a b) ∧ arr C' sv (swp p a b) := by
  have ca : (nI a).toNatClampNeg = a := nI_clamp (by omega)
  have cb' : (nI b).toNatClampNeg = b := nI_clamp (by omega)
  have ia : am_in (nI a) 6 := nI_in (by omega) (by omega)
  have ib : am_in (nI b) 6 := nI_in (by omega) (by omega)
  refine ⟨am_u2 (am_u2 C 285 a (C 285 b)) 285 b (C 285 a), ?_, fun a b q => by rw [u2_c q, u2_c q], fun k hk => ?_⟩
  · rw [b70_0, if_pos ia, if_pos ib, if_pos ia, if_pos ib]
    simp only [ca, cb']
  · rw [swp_l] at hk
    rw [swp_g ha hb]
    by_cases e1 : k = b
    · rw [if_pos e1, e1, u2_s]; exact h a ha
    · rw [if_neg e1, u2_p e1]
      by_cases e2 : k = a
      · rw [if_pos e2, e2, u2_s]; exact h b hb
      · rw [if_neg e2, u2_p e2]; exact h k hk
theorem c_step (d : Nat) (J : tJ) (x : Bool) (h : arr C sv p) (hl : p.length = n) (h6 : n ≤ 6) (hn : C 283 1 = nI n) (hp : ∀ k, k < n → p.getD k 0 < n) (s5 : ∀ i, i < n → sv i ≤ 5) (hs : ∀ i j, i < n → j < n → (sv i ≤ sv j ↔ i ≤ j)) : ∃ C', (∀ a b, a ≠ 285 → C' a b = C a b) ∧ match nxt n p with
    | none => am_G (am_ev (d + 2)) 69 [.ref 283] (C, J, (tc_R x), tc_S, 289, 11479) = some (some (.int 0), (C', J, (tc_R x), tc_S, 289, 11479))
    | some p' => am_G (am_ev (d + 2)) 69 [.ref 283] (C, J, (tc_R x), tc_S, 289, 11479) = some (some (.int 1), (C', J, (tc_R x), tc_S, 289, 11479)) ∧ arr C' sv p' := by
  have cmp : ∀ a b, a < n → b < n → (C 285 a ≤ C 285 b ↔ p.getD a 0 ≤ p.getD b 0) := by
    intro a b ha hb
    have s1 := s5 _ (hp a ha)
    have s2 := s5 _ (hp b hb)
    rw [h a (by omega), h b (by omega), nI_leI (by omega) (by omega)]
    exact hs _ _ (hp a ha) (hp b hb)
  have up : ∀ k, k + 1 ≤ n ∨ k = 0 → am_ev (d + 2) 69 7 [.ref 283, .int (nI k - 1), am_un, am_un, am_un] [] (C, J, (tc_R x), tc_S, 289, 11479) = am_ev (d + 2) 69 34 [.ref 283, .int (optI (fI p k)), am_un, am_un, am_un] [] (C, J, (tc_R x), tc_S, 289, 11479) := by
    intro k
    induction k with
    | zero =>
      intro _
      have e : nI 0 - 1 = (-1 : Int32) := rfl
      rw [e, b69_7, if_pos (by decide : (-1 : Int32) < 0)]
      rfl
    | succ k ih =>
      intro hk
      have hk : k + 2 ≤ n := by omega
      have ck : (nI k).toNatClampNeg = k := nI_clamp (by omega)
      have ck1 : (nI (k + 1)).toNatClampNeg = k + 1 := nI_clamp (by omega)
      have e : nI (k + 1) - 1 = nI k := nI_pred _
      rw [e, b69_7, if_neg (nI_pos (by omega)), if_pos (nI_in (by omega) (by omega)), nI_1, if_pos (nI_in (by omega) (by omega))]
      simp only [ck, ck1]
      unfold fI
      by_cases q : p.getD k 0 ≤ p.getD (k + 1) 0
      · rw [if_pos q, if_pos ((cmp k (k + 1) (by omega) (by omega)).mpr q)]; rfl
      · rw [if_neg q, if_neg (fun w => q ((cmp k (k + 1) (by omega) (by omega)).mp w)), nI_m1i, b69_31]
        exact ih (by omega)
  have st : am_G (am_ev (d + 2)) 69 [.ref 283] (C, J, (tc_R x), tc_S, 289, 11479) = am_ev (d + 2) 69 34 [.ref 283, .int (optI (fI p (n - 1))), am_un, am_un, am_un] [] (C, J, (tc_R x), tc_S, 289, 11479) := by
    rw [b69_0, hn]
    by_cases z : n = 0
    · subst z
      have e : nI 0 - 2 = (-2 : Int32) := rfl
      rw [e, b69_7, if_pos (by decide : (-2 : Int32) < 0), b69_34, if_neg (by decide : ¬ (0 : Int32) ≤ -2), b69_34]
      rfl
    · have e : nI n - 2 = nI (n - 1) - 1 := by
        have e1 : nI n = nI (n - 1) + 1 := by rw [nI_1, Nat.sub_add_cancel (by omega)]
        have e2 : (2 : Int32) = 1 + 1 := rfl
        rw [e1, e2, ← Int32.sub_sub, Int32.add_sub_cancel]
      rw [e]
      exact up (n - 1) (by omega)
  have fIb : ∀ k i, fI p k = some i → i < k := by
    intro k
    induction k with
    | zero => intro i e; cases e
    | succ k ih =>
      intro i e
      unfold fI at e
      by_cases q : p.getD k 0 ≤ p.getD (k + 1) 0
      · rw [if_pos q] at e; cases e; omega
      · rw [if_neg q] at e; have := ih i e; omega
  unfold nxt
  cases e : fI p (n - 1) with
  | none =>
    refine ⟨C, fun _ _ _ => rfl, ?_⟩
    rw [st, e, b69_34, if_neg (by decide : ¬ (0 : Int32) ≤ optI none)]
  | some i =>
    have il := fIb _ _ e
    have down : ∀ j, j < n → ∃ v, am_ev (d + 2) 69 47 [.ref 283, .int (nI i), .int (nI j), am_un, am_un] [] (C, J, (tc_R x), tc_S, 289, 11479) = am_call (am_G (am_ev (d + 1)) 70 [.ref 283, .int (nI i), .int (nI (fJ p i j))] (C, J, (tc_R x), tc_S, 289, 11479)) (fun r M => am_ev (d + 2) 69 79 [.ref 283, .int (nI i), .int v, am_un, am_un] (r.toList ++ []) M) ∧ fJ p i j ≤ j := by
      intro j
      induction j with
      | zero =>
        intro _
        refine ⟨nI 0, ?_, Nat.le_refl _⟩
        rw [b69_47, if_pos (nI_le (by omega) (by omega))]
        rfl
      | succ j ih =>
        intro hj
        have ci : (nI i).toNatClampNeg = i := nI_clamp (by omega)
        have cj : (nI (j + 1)).toNatClampNeg = j + 1 := nI_clamp (by omega)
        unfold fJ
        by_cases q : j + 1 ≤ i
        · refine ⟨nI (j + 1), ?_, by rw [if_pos (Or.inl q)]; exact Nat.le_refl _⟩
          rw [b69_47, if_pos (nI_le q (by omega)), if_pos (Or.inl q)]
        · have st2 := b69_47 (d + 1) C J x (nI i) (nI (j + 1)) am_un am_un
          rw [if_neg (nI_ge (by omega) (by omega)), if_pos (nI_in (by omega) (by omega)), if_pos (nI_in (by omega) (by omega))] at st2
          simp only [ci, cj] at st2
          by_cases q2 : p.getD i 0 ≤ p.getD (j + 1) 0
          · rw [if_pos ((cmp i (j + 1) (by omega) (by omega)).mpr q2)] at st2
            refine ⟨nI (j + 1), ?_, by rw [if_pos (Or.inr q2)]; exact Nat.le_refl _⟩
            rw [if_pos (Or.inr q2)]; exact st2
          · have nq : ¬ (j + 1 ≤ i ∨ p.getD i 0 ≤ p.getD (j + 1) 0) := fun w => w.elim q q2
            have e1 : nI (j + 1) - 1 = nI j := nI_pred _
            rw [if_neg (fun w => q2 ((cmp i (j + 1) (by omega) (by omega)).mp w)), nI_m1i, e1, b69_70] at st2
            obtain ⟨v, y1, y2⟩ := ih (by omega)
            refine ⟨v, ?_, by rw [if_neg nq]; omega⟩
            rw [if_neg nq]; exact st2.trans y1
    obtain ⟨v, y1, y2⟩ := down (n - 1) (by omega)
    obtain ⟨C1, s1, s2, s3⟩ := c_swap (d := d) J x h (by omega) (a := i) (b := fJ p i (n - 1)) (by omega) (by omega)
    have rev : ∀ f (q : List Nat) (l r : Nat) (D : tI) (v1 v2 : Value), arr D sv q → q.length = n → r < n → r ≤ l + f → l + f ≤ 20 → ∃ D', am_ev (d + 2) 69 91 [.ref 283, v1, am_wk (some (.inr v)), .int (nI l), .int (nI r)] [] (D, J, (tc_R x), tc_S, 289, 11479) = some (some (.int 1), (D', J, (tc_R x), tc_S, 289, 11479)) ∧ (∀ a b, a ≠ 285 → D' a b = D a b) ∧ arr D' sv (rvs q f l r) := by
      intro f
      induction f with
      | zero =>
        intro q l r D v1 v2 aD lq rn rl lf
        refine ⟨D, ?_, fun _ _ _ => rfl, aD⟩
        rw [b69_91, if_pos (nI_le (by omega) (by omega))]
      | succ f ih =>
        intro q l r D v1 v2 aD lq rn rl lf
        have e0 : rvs q (f + 1) l r = if r ≤ l then q else rvs (swp q l r) f (l + 1) (r - 1) := rfl
        rw [e0]
        by_cases z : r ≤ l
        · refine ⟨D, ?_, fun _ _ _ => rfl, by rw [if_pos z]; exact aD⟩
          rw [b69_91, if_pos (nI_le z (by omega))]
        · obtain ⟨E, t1, t2, t3⟩ := c_swap (d := d) J x aD (by omega) (a := l) (b := r) (by omega) (by omega)
          obtain ⟨D', u1, u2, u3⟩ := ih (swp q l r) (l + 1) (r - 1) E v1 v2 t3 (by rw [swp_l]; exact lq) (by omega) (by omega) (by omega)
          have e1 : nI r - 1 = nI (r - 1) := nI_sub (b := 1) (by omega) (by omega)
          refine ⟨D', ?_, fun a b w => by rw [u2 a b w, t2 a b w], by rw [if_neg z]; exact u3⟩
          rw [b69_91, if_neg (nI_ge (by omega) (by omega)), t1, am_call_s, am_toN]
          refine (b69_104 (d + 1) E J x v1 (some (.inr v)) (nI l) (nI r)).trans ?_
          rw [nI_m1i, e1, nI_1, b69_110]
          exact u1
    obtain ⟨D', u1, u2, u3⟩ := rev 6 (swp p i (fJ p i (n - 1))) (i + 1) (n - 1) C1 (.int (nI i)) am_un s3 (by rw [swp_l]; exact hl) (by omega) (by omega) (by omega)
    refine ⟨D', fun a b w => by rw [u2 a b w, s2 a b w], ?_, u3⟩
    have en : nI n - 1 = nI (n - 1) := nI_sub (b := 1) (by omega) (by omega)
    have oe : optI (some i) = nI i := rfl
    rw [st, e, oe, b69_34, if_pos (show (0 : Int32) ≤ nI i from nI_le (a := 0) (by omega) (by omega)), hn, en, y1, s1, am_call_s, am_toN]
    refine (b69_79 (d + 1) C1 J x (nI i) (some (.inr v)) am_un am_un).trans ?_
    rw [s2 283 1 (by omega), hn, en, nI_1]
    exact u1
end RT
