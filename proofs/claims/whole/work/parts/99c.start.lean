/-! CONSTRUCTORS: what they leave -/
theorem lx_zI {M0 : am_M} {k : Nat} (h0 : ∀ j, M0.1 k j = 0) : ∀ g : lx_L, (g.all fun q => !(Nat.beq q.1 0 && Nat.beq q.2.1 k) || decide (q.2.2.2.2 = 0)) = true → ∀ j, (lx_M M0 g).1 k j = 0
  | [], _, j => h0 j
  | q :: r, h, j => by
    rw [List.all_cons, Bool.and_eq_true] at h
    have ih := lx_zI h0 r h.2 j
    show (lx_1 (lx_M M0 r) q).1 k j = 0
    unfold lx_1
    split
    · rename_i hq
      show am_u2 _ _ _ _ k j = 0
      unfold am_u2
      by_cases z : k = q.2.1 ∧ j = q.2.2.1
      · rw [if_pos z]
        have h1 := h.1
        rw [hq, ← z.1] at h1
        simpa using h1
      · rw [if_neg z]; exact ih
    · exact ih
    · exact ih
    · show (if k = _ then (0 : Int32) else _) = 0
      split
      · rfl
      · exact ih
    · show (if _ then (0 : Int32) else _) = 0
      split
      · rfl
      · exact ih
    · exact ih
/-- two memories that stand for the same cells -/
def am_agr (M M' : am_M) : Prop := M.2.2.2.2.1 = M'.2.2.2.2.1 ∧ M.1 = M'.1 ∧ M.2.1 = M'.2.1 ∧ ∀ k, k < M'.2.2.2.2.1 → M.2.2.2.1 k = M'.2.2.2.1 k ∧ (¬ (20 ≤ (M'.2.2.2.1 k).1 ∧ (M'.2.2.2.1 k).1 ≤ 22) → ∀ j, j < (M'.2.2.2.1 k).2 → M.2.2.1 k j = M'.2.2.1 k j)
def am_agB (M M' : am_M) : Bool := (List.range M'.2.2.2.2.1).all fun k => decide (M.2.2.2.1 k = M'.2.2.2.1 k) && cond (Nat.ble 20 (M'.2.2.2.1 k).1 && Nat.ble (M'.2.2.2.1 k).1 22) true ((List.range (M'.2.2.2.1 k).2).all fun j => decide (M.2.2.1 k j = M'.2.2.1 k j))
theorem am_agr.of {M M' : am_M} (h1 : M.2.2.2.2.1 = M'.2.2.2.2.1) (h2 : M.1 = M'.1) (h3 : M.2.1 = M'.2.1) (h : am_agB M M' = true) : am_agr M M' := by
  refine ⟨h1, h2, h3, fun k hk => ?_⟩
  unfold am_agB at h
  have hk1 := List.all_eq_true.mp h k (List.mem_range.mpr hk)
  rw [Bool.and_eq_true] at hk1
  refine ⟨of_decide_eq_true hk1.1, fun hc j hj => ?_⟩
  have hb : (Nat.ble 20 (M'.2.2.2.1 k).1 && Nat.ble (M'.2.2.2.1 k).1 22) = false := by
    rw [Bool.eq_false_iff]
    intro z
    rw [Bool.and_eq_true] at z
    exact hc ⟨Nat.le_of_ble_eq_true z.1, Nat.le_of_ble_eq_true z.2⟩
  have h2 := hk1.2
  rw [hb, cond_false] at h2
  exact of_decide_eq_true (List.all_eq_true.mp h2 j (List.mem_range.mpr hj))
theorem arrV_ext {c : ClassId} {N : Nat} {f g : Nat → Value} (h : ∀ j, j < N → f j = g j) : arrV c N f = arrV c N g := by
  unfold arrV
  have : (fun j : Fin N => f j.val) = (fun j : Fin N => g j.val) := funext fun j => h j.val j.isLt
  rw [this]
theorem am_agr.at {M M' : am_M} (h : am_agr M M') {D : va_G} {cl : List vw_C} {cid : Nat → ClassId} {ad : Nat → Nat} {H : Heap} {k : Nat} (hk : k < M'.2.2.2.2.1) (ha : va_at D cl (ad k, am_wE cid ad M k) H) : va_at D cl (ad k, am_wE cid ad M' k) H := by
  obtain ⟨h1, h2, h3, h4⟩ := h
  obtain ⟨e1, e2⟩ := h4 k hk
  unfold am_wE at ha ⊢
  rw [e1, h2, h3] at ha
  by_cases z : (M'.2.2.2.1 k).1 < 13
  · rw [if_pos z] at ha ⊢
    have e : (List.range (M'.2.2.2.1 k).2).map (fun j => am_tv ad (am_gf M k j (am_fk (M'.2.2.2.1 k).1 j))) = (List.range (M'.2.2.2.1 k).2).map (fun j => am_tv ad (am_gf M' k j (am_fk (M'.2.2.2.1 k).1 j))) := by
      apply List.map_congr_left
      intro j hj
      have := e2 (by omega) j (List.mem_range.mp hj)
      unfold am_gf
      split
      · rw [h3]
      · rw [this]
      · rw [h2]
    rw [e] at ha
    exact ha
  · rw [if_neg z] at ha ⊢
    by_cases y : (M'.2.2.2.1 k).1 = 20 ∨ (M'.2.2.2.1 k).1 = 22
    · rw [if_pos y] at ha ⊢; exact ha
    · rw [if_neg y] at ha ⊢
      by_cases w : (M'.2.2.2.1 k).1 = 21
      · rw [if_pos w] at ha ⊢; exact ha
      · rw [if_neg w] at ha ⊢
        have ha : H[ad k]? = some (vp_cell _ _) := ha
        show H[ad k]? = some (vp_cell _ _)
        rw [ha, vp_cell_q, vp_cell_q]
        congr 1
        exact arrV_ext (fun j hj => by rw [e2 (by omega) j hj])
theorem am_agr.P {M M' : am_M} (h : am_agr M M') {D : va_G} {cl : List vw_C} {cid : Nat → ClassId} {ad : Nat → Nat} {H : Heap} (hP : va_P D cl (am_ws cid ad M) H) : va_P D cl (am_ws cid ad M') H := by
  intro k q hq
  have hk : k < M'.2.2.2.2.1 := by
    have := (List.getElem?_eq_some_iff.mp hq).1
    unfold am_ws at this
    rwa [List.length_map, List.length_range] at this
  rw [am_ws_at hk] at hq
  cases hq
  exact h.at hk (hP k _ (am_ws_at (by rw [h.1]; exact hk)))
theorem am_agr.D {M M' : am_M} (h : am_agr M M') {A : Nat → Prop} {cid : Nat → ClassId} {ad : Nat → Nat} (hD : va_D A (am_ws cid ad M)) : va_D A (am_ws cid ad M') := by
  have key : ∀ (k : Nat) (q : Nat × va_E), (am_ws cid ad M')[k]? = some q → ∃ q' : Nat × va_E, (am_ws cid ad M)[k]? = some q' ∧ q'.1 = q.1 := by
    intro k q hq
    have hk : k < M'.2.2.2.2.1 := by
      have := (List.getElem?_eq_some_iff.mp hq).1
      unfold am_ws at this
      rwa [List.length_map, List.length_range] at this
    rw [am_ws_at hk] at hq
    cases hq
    exact ⟨_, am_ws_at (by rw [h.1]; exact hk), rfl⟩
  refine ⟨fun i j p q hi hj e => ?_, fun k q hq => ?_⟩
  · obtain ⟨p', a1, a2⟩ := key i p hi
    obtain ⟨q', b1, b2⟩ := key j q hj
    exact hD.1 i j p' q' a1 b1 (by rw [a2, b2, e])
  · obtain ⟨q', b1, b2⟩ := key k q hq
    rw [← b2]; exact hD.2 k q' b1
/-! the class's memory, and the model's -/
def stC : am_M := lx_M (lx_0 11 10) lgC
def stM : am_M := lx_M (lx_0 12 103) lgM
theorem stC_run : am_G (am_ev 5) 108 [.ref 0] (lx_0 11 10) = some (none, stC) := lx_G_ok (lx_0 11 10) 6000 5 108 [.ref 0] [] lgC lgC_run
theorem stM_run : am_G (am_ev 5) 156 [.ref 0] (lx_0 12 103) = some (none, stM) := lx_G_ok (lx_0 12 103) 6000 5 156 [.ref 0] [] lgM lgM_run
set_option maxRecDepth 1000000 in
set_option maxHeartbeats 0 in
theorem stC_n : stC.2.2.2.2.1 = 289 ∧ stC.2.2.2.2.2 = 11479 := by decide +kernel
set_option maxRecDepth 1000000 in
set_option maxHeartbeats 0 in
theorem stM_n : stM.2.2.2.2.1 = 77 ∧ stM.2.2.2.2.2 = 21637 := by decide +kernel
set_option maxRecDepth 1000000 in
set_option maxHeartbeats 0 in
theorem stC_ag : am_agB stC (stC.1, stC.2.1, tc_R false, tc_S, 289, 11479) = true := by decide +kernel
set_option maxRecDepth 1000000 in
set_option maxHeartbeats 0 in
theorem stM_ag : am_agB stM (stM.1, stM.2.1, tm_R, tm_S, 77, 21637) = true := by decide +kernel
theorem am_agr.of' {M : am_M} {R : Nat → Nat → Option Nat} {S : Nat → Nat × Nat} {n w : Nat} (h1 : M.2.2.2.2.1 = n) (h : am_agB M (M.1, M.2.1, R, S, n, w) = true) : am_agr M (M.1, M.2.1, R, S, n, w) := am_agr.of h1 rfl rfl h
theorem stC_agr : am_agr stC (stC.1, stC.2.1, tc_R false, tc_S, 289, 11479) := am_agr.of' stC_n.1 stC_ag
theorem stM_agr : am_agr stM (stM.1, stM.2.1, tm_R, tm_S, 77, 21637) := am_agr.of' stM_n.1 stM_ag
