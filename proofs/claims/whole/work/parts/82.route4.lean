/-! the sizes asked for; the class's route -/
section RT4
variable {x : Bool} {C D M : tI} {J Jc : tJ}
def aqF (M : tI) (x : Bool) (s k : Nat) : Nat := if M 27 (8 * xb x + k) = nI s then Int32.toNatClampNeg (M 28 (8 * xb x + k)) else 0
def askd (M : tI) (x : Bool) (s : Nat) : Bool := decide (0 < nsm (aqF M x s) (Int32.toNatClampNeg (M 26 (xb x))))
theorem Rl.asN (h : Rl x C M J) (s : Nat) : ∀ m, m ≤ Int32.toNatClampNeg (M 26 (xb x)) → asS M x (nI s) m = nI (nsm (aqF M x s) m) ∧ nsm (aqF M x s) m ≤ 60 * m := by
  have po := h.P.2.2.2.2.2.2.2.1.2
  intro m
  induction m with
  | zero => intro _; exact ⟨rfl, Nat.le_refl _⟩
  | succ m ih =>
    intro hm
    obtain ⟨i1, i2⟩ := ih (by omega)
    have es : asS M x (nI s) (m + 1) = asS M x (nI s) m + (if M 27 (8 * xb x + m) = nI s then M 28 (8 * xb x + m) else 0) := rfl
    have b28 := (po m (by omega)).2.2.2.2.2.1
    have c28 := b28.cl (by omega)
    rw [es, i1, nsm_s]
    by_cases q : M 27 (8 * xb x + m) = nI s
    · have e : aqF M x s m = Int32.toNatClampNeg (M 28 (8 * xb x + m)) := if_pos q
      (rw [if_pos q, e, b28.eq (by omega), nI_add]; (try simp (disch := omega) only [nI_clamp]))
      exact ⟨by first | rfl | trivial, by omega⟩
    · have e : aqF M x s m = 0 := if_neg q
      rw [if_neg q, e, Int32.add_zero]
      exact ⟨rfl, by omega⟩
def fl (c : Nat → Bool) (j : Nat) : List Nat := (List.range j).filter c
theorem fl_s (c : Nat → Bool) (j : Nat) : fl c (j + 1) = if c j = true then fl c j ++ [j] else fl c j := by
  unfold fl
  rw [List.range_succ, List.filter_append]
  by_cases q : c j = true
  · rw [if_pos q, List.filter_cons_of_pos q]; rfl
  · rw [if_neg q, List.filter_cons_of_neg q]; exact List.append_nil _
theorem fl_len (c : Nat → Bool) (j : Nat) : (fl c j).length ≤ j := by
  have := List.length_filter_le c (List.range j)
  rw [List.length_range] at this
  exact this
theorem fl_lt {c : Nat → Bool} {j k : Nat} (h : k < (fl c j).length) : (fl c j).getD k 0 < j := by
  rw [List.getD_eq_getElem?_getD, List.getElem?_eq_getElem h]
  have m : (fl c j)[k] ∈ fl c j := List.getElem_mem h
  exact List.mem_range.mp (List.mem_filter.mp m).1
theorem fl_mono {c : Nat → Bool} {j i k : Nat} (hi : i < (fl c j).length) (hk : k < (fl c j).length) : ((fl c j).getD i 0 ≤ (fl c j).getD k 0 ↔ i ≤ k) := by
  have pw : (fl c j).Pairwise (· < ·) := List.Pairwise.filter c List.pairwise_lt_range
  rw [List.pairwise_iff_getElem] at pw
  rw [List.getD_eq_getElem?_getD, List.getElem?_eq_getElem hi, List.getD_eq_getElem?_getD, List.getElem?_eq_getElem hk]
  show (fl c j)[i] ≤ (fl c j)[k] ↔ i ≤ k
  constructor
  · intro w
    refine Classical.byContradiction (fun z => ?_)
    have := pw k i hk hi (by omega)
    omega
  · intro w
    by_cases e : i = k
    · subst e; exact Nat.le_refl _
    · have := pw i k hi hk (by omega)
      omega
theorem app_g (l : List Nat) (v k : Nat) : (l ++ [v]).getD k 0 = if k < l.length then l.getD k 0 else if k = l.length then v else 0 := by
  rw [List.getD_eq_getElem?_getD, List.getD_eq_getElem?_getD]
  by_cases q : k < l.length
  · rw [if_pos q, List.getElem?_append_left q]
  · rw [if_neg q, List.getElem?_append_right (by omega)]
    by_cases e : k = l.length
    · rw [if_pos e, e, Nat.sub_self]; rfl
    · rw [if_neg e, List.getElem?_eq_none (by show 1 ≤ _; omega)]; rfl
theorem Rl.gtC (h : Rl x C M J) (last : Int32) (d : Nat) : ∃ D, am_G (am_ev (d + 3)) 67 [.ref 283, .ref (tc_P x), .int last] (C, Jc, (tc_R x), tc_S, 289, 11479) = am_ev (d + 3) 67 61 [.ref 283, .ref (tc_P x), .int last, .int 1, .int (nI 0), am_un] [] (D, Jc, (tc_R x), tc_S, 289, 11479) ∧ (∀ a b, a < 283 ∨ 285 < a → D a b = C a b) ∧ D 283 1 = nI (fl (askd M x) (Int32.toNatClampNeg (M 11 (xb x)))).length ∧ D 283 2 = -1 ∧ ∀ k, k < (fl (askd M x) (Int32.toNatClampNeg (M 11 (xb x)))).length → D 285 k = nI ((fl (askd M x) (Int32.toNatClampNeg (M 11 (xb x)))).getD k 0) := by
  have hx := tc_P4 x
  have b11 := h.n11.2.cl (by omega)
  have e11 := h.n11.2.eq (by omega)
  have b26 := h.Pc.2.2.2.2.2.1.2.cl (by omega)
  have run : ∀ j, j ≤ Int32.toNatClampNeg (M 11 (xb x)) → ∃ D, am_ev (d + 3) 67 7 [.ref 283, .ref (tc_P x), .int last, .int (nI 0), am_un, am_un] [] ((am_u2 C 283 1 0), Jc, (tc_R x), tc_S, 289, 11479) = am_ev (d + 3) 67 7 [.ref 283, .ref (tc_P x), .int last, .int (nI j), am_un, am_un] [] (D, Jc, (tc_R x), tc_S, 289, 11479) ∧ (∀ a b, a < 283 ∨ 285 < a → D a b = C a b) ∧ D 283 1 = nI (fl (askd M x) j).length ∧ ∀ k, k < (fl (askd M x) j).length → D 285 k = nI ((fl (askd M x) j).getD k 0) := by
    intro j
    induction j with
    | zero => intro _; exact ⟨_, rfl, fun a b q => u2_c (by omega), u2_s, fun k hk => by cases hk⟩
    | succ j ih =>
      intro hj
      obtain ⟨D, a1, a2, a3, a4⟩ := ih (by omega)
      have hD : Rl x D M J := h.scr (fun a b q => a2 a b (by omega)) (fun _ _ _ => rfl) (fun _ _ _ => rfl)
      have gl : ¬ D (tc_P x + 1) 2 ≤ nI j := by rw [a2 _ _ (by omega), h.n11.1, e11]; exact nI_ge (by omega) (by omega)
      have st := b67_7 (d + 2) D Jc x x last (nI j) am_un am_un
      rw [if_pos i29, c29, if_neg gl, hD.asC (nI j), am_call_s, am_toL, b67_22, nI_1] at st
      obtain ⟨n1, n2⟩ := h.asN j _ (Nat.le_refl _)
      rw [n1] at st
      have ll := fl_len (askd M x) j
      have cl : (nI (fl (askd M x) j).length).toNatClampNeg = (fl (askd M x) j).length := nI_clamp (by omega)
      rw [fl_s]
      by_cases q : 0 < nsm (aqF M x j) (Int32.toNatClampNeg (M 26 (xb x)))
      · have e : askd M x j = true := decide_eq_true q
        rw [if_pos e]
        rw [if_neg (show ¬ nI (nsm (aqF M x j) (Int32.toNatClampNeg (M 26 (xb x)))) ≤ 0 from nI_ge (a := 0) q (by omega)), a3, if_pos (nI_in (by omega) (by omega)), nI_1] at st
        simp only [cl] at st
        refine ⟨_, a1.trans st, fun a b z => by rw [u2_c (by omega), u2_c (by omega)]; exact a2 a b z, by rw [u2_s, List.length_append]; rfl, fun k hk => ?_⟩
        rw [List.length_append] at hk
        have hk : k < (fl (askd M x) j).length + 1 := hk
        rw [u2_c (by omega), app_g]
        by_cases z : k < (fl (askd M x) j).length
        · rw [if_pos z, u2_p (by omega)]; exact a4 k z
        · have z2 : k = (fl (askd M x) j).length := by omega
          rw [if_neg z, if_pos z2, z2, u2_s]
      · have e : ¬ askd M x j = true := by unfold askd; rw [decide_eq_true_eq]; exact q
        rw [if_neg e]
        rw [if_pos (show nI (nsm (aqF M x j) (Int32.toNatClampNeg (M 26 (xb x)))) ≤ 0 by rw [show nsm (aqF M x j) (Int32.toNatClampNeg (M 26 (xb x))) = 0 by omega]; decide)] at st
        exact ⟨D, a1.trans st, a2, a3, a4⟩
  obtain ⟨D, a1, a2, a3, a4⟩ := run _ (Nat.le_refl _)
  have gl : D (tc_P x + 1) 2 ≤ nI (Int32.toNatClampNeg (M 11 (xb x))) := by rw [a2 _ _ (by omega), h.n11.1, ← e11]; exact Int32.le_refl _
  refine ⟨am_u2 D 283 2 (-1), ?_, fun a b q => by rw [u2_c (by omega)]; exact a2 a b q, by rw [u2_p (by omega)]; exact a3, u2_s, fun k hk => by rw [u2_c (by omega)]; exact a4 k hk⟩
  rw [b67_0]
  refine Eq.trans a1 ?_
  rw [b67_7, if_pos i29, c29, if_pos gl]
  rfl
/-- the table of orders -/
def tabOK (n : Nat) : Bool := match perms n (List.range n) with
  | [] => false
  | p :: r => decide (p = List.range n) && chn n (p :: r) && (p :: r).all (fun q => decide (q.length = n) && q.all (fun z => decide (z < n))) && decide (r.length + 1 ≤ 720)
theorem tab_all : ∀ n, n ≤ 6 → tabOK n = true := by
  intro n h1
  have h : n = 0 ∨ n = 1 ∨ n = 2 ∨ n = 3 ∨ n = 4 ∨ n = 5 ∨ n = 6 := by omega
  rcases h with rfl | rfl | rfl | rfl | rfl | rfl | rfl <;> decide +kernel
end RT4
