/-! what the class's search leaves -/
theorem fm_mem {β : Type} (c : β → Nat) : ∀ (l : List β) q, fm c l = some q → q ∈ l := by
  intro l
  induction l with
  | nil => intro q h; cases h
  | cons a l ih =>
    intro q h
    rw [fm_c] at h
    cases e : fm c l with
    | none => rw [e] at h; cases h; exact List.mem_cons_self ..
    | some b =>
      rw [e, cmb_2] at h
      by_cases z : c b < c a
      · rw [if_pos z] at h; cases h; exact List.mem_cons_of_mem _ (ih _ e)
      · rw [if_neg z] at h; cases h; exact List.mem_cons_self ..
theorem fm_some {β : Type} (c : β → Nat) (a : β) (l : List β) : ∃ q, fm c (a :: l) = some q := by
  rw [fm_c]
  cases e : fm c l with
  | none => exact ⟨a, rfl⟩
  | some b =>
    rw [cmb_2]
    by_cases z : c b < c a
    · exact ⟨b, if_pos z⟩
    · exact ⟨a, if_neg z⟩
theorem range_g (S : List Nat) : (List.range S.length).map (fun k => S.getD k 0) = S := by
  refine List.ext_getElem (by rw [List.length_map, List.length_range]) (fun i h1 h2 => ?_)
  rw [List.getElem_map, List.getElem_range, List.getD_eq_getElem?_getD, List.getElem?_eq_getElem h2]
  rfl
theorem map_g (f : Nat → Nat) {q : List Nat} {k : Nat} (h : k < q.length) : (q.map f).getD k 0 = f (q.getD k 0) := by
  rw [List.getD_eq_getElem?_getD, List.getD_eq_getElem?_getD, List.getElem?_map, List.getElem?_eq_getElem h]
  rfl
theorem rng_g {n k : Nat} (h : k < n) : (List.range n).getD k 0 = k := by
  rw [List.getD_eq_getElem?_getD, List.getElem?_eq_getElem (by rw [List.length_range]; exact h), List.getElem_range]
  rfl
section RT5
variable {x : Bool} {C D M : tI} {J Jc : tJ}
theorem Rl.rtC (h : Rl x C M J) (d : Nat) : ∃ (b : Nat) (D : tI) (q : List Nat), (b = 6 ∨ b < Int32.toNatClampNeg (M 11 (xb x))) ∧ enc b = M 0 89 ∧ am_G (am_ev (d + 3)) 67 [.ref 283, .ref (tc_P x), .int (C 41 2)] (C, Jc, (tc_R x), tc_S, 289, 11479) = some (none, (D, Jc, (tc_R x), tc_S, 289, 11479)) ∧ Rl x D M J ∧ D 283 1 = nI (fl (askd M x) (Int32.toNatClampNeg (M 11 (xb x)))).length ∧ bst (gM M x) (fl (askd M x) (Int32.toNatClampNeg (M 11 (xb x)))).length b (fl (askd M x) (Int32.toNatClampNeg (M 11 (xb x)))) = some q ∧ q.length = (fl (askd M x) (Int32.toNatClampNeg (M 11 (xb x)))).length ∧ D 283 2 = nI (cst' (gM M x) b q) ∧ ∀ k, k < (fl (askd M x) (Int32.toNatClampNeg (M 11 (xb x)))).length → D 284 k = nI (q.getD k 0) := by
  have hx := tc_P4 x
  have b11 := h.n11.2.cl (by omega)
  obtain ⟨D, a1, a2, a3, a4, a5⟩ := h.gtC (Jc := Jc) (C 41 2) d
  have eb : ∃ b, (b = 6 ∨ b < Int32.toNatClampNeg (M 11 (xb x))) ∧ enc b = M 0 89 := by
    rcases h.last' with e | ⟨i, hi, e⟩
    · exact ⟨6, Or.inl rfl, by rw [e]; rfl⟩
    · exact ⟨i, Or.inr hi, by rw [e]; exact if_neg (by omega)⟩
  obtain ⟨b, hb, eb⟩ := eb
  have ll := fl_len (askd M x) (Int32.toNatClampNeg (M 11 (xb x)))
  have lt := fun k hk => fl_lt (c := askd M x) (j := Int32.toNatClampNeg (M 11 (xb x))) (k := k) hk
  have mono := fun i k hi hk => fl_mono (c := askd M x) (j := Int32.toNatClampNeg (M 11 (xb x))) (i := i) (k := k) hi hk
  generalize fl (askd M x) (Int32.toNatClampNeg (M 11 (xb x))) = S at *
  have tab := tab_all S.length (by omega)
  unfold tabOK at tab
  cases ep : perms S.length (List.range S.length) with
  | nil => rw [ep] at tab; cases tab
  | cons p r =>
    rw [ep] at tab
    have tab : (decide (p = List.range S.length) && chn S.length (p :: r) && (p :: r).all (fun q => decide (q.length = S.length) && q.all (fun z => decide (z < S.length))) && decide (r.length + 1 ≤ 720)) = true := tab
    rw [Bool.and_eq_true, Bool.and_eq_true, Bool.and_eq_true] at tab
    obtain ⟨⟨⟨t1, t2⟩, t3⟩, t4⟩ := tab
    have t1 := of_decide_eq_true t1
    have t4 := of_decide_eq_true t4
    have t3 : ∀ q ∈ p :: r, q.length = S.length ∧ ∀ k, k < S.length → q.getD k 0 < S.length := by
      intro q hq
      have z := List.all_eq_true.mp t3 q hq
      rw [Bool.and_eq_true] at z
      have z1 := of_decide_eq_true z.1
      refine ⟨z1, fun k hk => ?_⟩
      rw [List.getD_eq_getElem?_getD, List.getElem?_eq_getElem (by omega)]
      exact of_decide_eq_true (List.all_eq_true.mp z.2 _ (List.getElem_mem (by omega)))
    have ar : arr D (fun k => S.getD k 0) p := by
      intro k hk
      rw [t1, List.length_range] at hk
      rw [t1, rng_g hk]
      exact a5 k hk
    obtain ⟨E, u1, u2, u3, u4⟩ := h.fnC (Jc := Jc) (sv := fun k => S.getD k 0) (n := S.length) (by omega) hb (fun i hi => lt i hi) (fun i j hi hj => mono i j hi hj) d r p none D 0 am_un t2 t3 (fun q hq => by cases hq) a2 a3 ar a4 (by omega)
    have e0 : ∀ F, cmb (fun q : List Nat => cst' (gM M x) b (q.map (fun k => S.getD k 0))) none F = F := fun F => rfl
    rw [e0] at u4
    obtain ⟨q0, eq0⟩ := fm_some (fun q : List Nat => cst' (gM M x) b (q.map (fun k => S.getD k 0))) p r
    rw [eq0] at u4
    obtain ⟨v1, v2⟩ := u4
    obtain ⟨l0, _⟩ := t3 q0 (fm_mem _ _ _ eq0)
    have bs : bst (gM M x) S.length b S = some (q0.map (fun k => S.getD k 0)) := by
      have e1 : perms S.length S = (perms S.length (List.range S.length)).map (List.map (fun k => S.getD k 0)) := by
        rw [← perms_map, range_g]
      rw [← fm_bst, e1, ep, fm_map (c := cst' (gM M x) b) (d := fun q : List Nat => cst' (gM M x) b (q.map (fun k => S.getD k 0))) (f := List.map (fun k => S.getD k 0)) (k := 0) (fun t => (Nat.zero_add _).symm), eq0]
      rfl
    have hE : Rl x E M J := h.scr (fun a b q => u2 a b (by omega)) (fun _ _ _ => rfl) (fun _ _ _ => rfl)
    refine ⟨b, E, q0.map (fun k => S.getD k 0), hb, eb, ?_, hE, u3, bs, by rw [List.length_map]; exact l0, v1, fun k hk => ?_⟩
    · rw [a1, h.last, ← eb]; exact u1
    · rw [map_g _ (by omega)]; exact v2 k hk
end RT5
