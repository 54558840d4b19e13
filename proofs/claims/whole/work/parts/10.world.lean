/-! THE WORLD: what heap a memory stands for. -/
/-- an abstract value as the machine has it -/
def am_tv (ad : Nat → Nat) (v : Value) : Value := match v with
  | .ref k => .ref (ad k)
  | v => v
theorem am_tv_cat (ad : Nat → Nat) (v : Value) : (am_tv ad v).category = v.category := by cases v <;> rfl
theorem am_tv_rf (ad : Nat → Nat) (r : Option Nat) : am_tv ad (va_rf r) = va_rf (r.map ad) := by cases r <;> rfl
theorem am_cats_tv (ad : Nat → Nat) (st : List Value) : ((st.map (am_tv ad)).map fun v => v.category).sum = am_cats st := by
  unfold am_cats
  rw [List.map_map]
  congr 1
  apply List.map_congr_left
  intro v _
  exact am_tv_cat ad v
/-- a cell's entry -/
def am_wE (cid : Nat → ClassId) (ad : Nat → Nat) (M : am_M) (k : Nat) : va_E :=
  if (M.2.2.2.1 k).1 < 13 then .inr ((M.2.2.2.1 k).1, (List.range (M.2.2.2.1 k).2).map fun j => am_tv ad (am_gf M k j (am_fk (M.2.2.2.1 k).1 j)))
  else if (M.2.2.2.1 k).1 = 20 ∨ (M.2.2.2.1 k).1 = 22 then .inl (cid (M.2.2.2.1 k).1, (M.2.2.2.1 k).2, .inl (M.1 k))
  else if (M.2.2.2.1 k).1 = 21 then .inl (cid 21, (M.2.2.2.1 k).2, .inr (.inl (M.2.1 k)))
  else .inl (cid (M.2.2.2.1 k).1, (M.2.2.2.1 k).2, .inr (.inr (.inr (.inr fun j => (M.2.2.1 k j).map ad))))
def am_ws (cid : Nat → ClassId) (ad : Nat → Nat) (M : am_M) : va_W := (List.range M.2.2.2.2.1).map fun k => (ad k, am_wE cid ad M k)
theorem am_ws_at {cid : Nat → ClassId} {ad : Nat → Nat} {M : am_M} {k : Nat} (h : k < M.2.2.2.2.1) : (am_ws cid ad M)[k]? = some (ad k, am_wE cid ad M k) := by
  unfold am_ws
  rw [List.getElem?_map, List.getElem?_range h]
  rfl
theorem am_ws_set {cid : Nat → ClassId} {ad : Nat → Nat} {M M' : am_M} {k : Nat} {e : va_E} (hn : M'.2.2.2.2.1 = M.2.2.2.2.1) (he : am_wE cid ad M' k = e) (ho : ∀ j, j ≠ k → am_wE cid ad M' j = am_wE cid ad M j) : (am_ws cid ad M).set k (ad k, e) = am_ws cid ad M' := by
  apply List.ext_getElem?
  intro i
  by_cases hi : i < M.2.2.2.2.1
  · rw [am_ws_at (hn ▸ hi : i < M'.2.2.2.2.1)]
    by_cases hik : i = k
    · subst hik
      rw [List.getElem?_set_self (by unfold am_ws; rw [List.length_map, List.length_range]; exact hi), he]
    · rw [List.getElem?_set_ne (Ne.symm hik), am_ws_at hi, ho i hik]
  · rw [List.getElem?_eq_none (by unfold am_ws; rw [List.length_set, List.length_map, List.length_range]; omega), List.getElem?_eq_none (by unfold am_ws; rw [List.length_map, List.length_range]; omega)]
def am_tys (cid : Nat → ClassId) : List (ClassId × FieldType) := [(cid 20, .int), (cid 21, .long), (cid 22, .boolean), (cid 23, .object "TyreWorks$Batch"), (cid 24, .object "TyreWorks$Lot"), (cid 25, .object "TyreWorks$Press"), (cid 26, .object "TyreWorks$Tyre"), (cid 27, .array .int)]
/-- locals -/
def am_lh (ad : Nat → Nat) (ls : Array Slot) (nL : Nat) (L : List Value) : Prop := ls.size = nL ∧ lv_wf ls ∧ ∀ (i : Nat) (v : Value), L[i]? = some v → (∀ q, v ≠ .retAddr q) → ls[i]? = some (.val (am_tv ad v))
def am_lvx (ad : Nat → Nat) (i : Nat) (o : Option Value) : Option (Nat × Value) := match o with
  | some (Value.retAddr _) => none
  | some v => some (i, am_tv ad v)
  | none => none
def am_lv (ad : Nat → Nat) (L : List Value) : List (Nat × Value) := (List.range L.length).filterMap fun i => am_lvx ad i L[i]?
theorem am_lvx_some {ad : Nat → Nat} {i : Nat} {v : Value} (hv : ∀ q, v ≠ .retAddr q) : am_lvx ad i (some v) = some (i, am_tv ad v) := by
  cases v
  case retAddr q => exact absurd rfl (hv q)
  all_goals rfl
theorem am_lvx_inv {ad : Nat → Nat} {i : Nat} {o : Option Value} {q : Nat × Value} (h : am_lvx ad i o = some q) : ∃ v, o = some v ∧ (∀ q, v ≠ .retAddr q) ∧ q = (i, am_tv ad v) := by
  cases o with
  | none => cases h
  | some v =>
    cases v
    case retAddr q => cases h
    all_goals exact ⟨_, rfl, (fun _ e => by cases e), (Option.some.inj h).symm⟩
theorem am_lv_mem {ad : Nat → Nat} {L : List Value} {i : Nat} {v : Value} (h : L[i]? = some v) (hv : ∀ q, v ≠ .retAddr q) : (i, am_tv ad v) ∈ am_lv ad L := by
  unfold am_lv
  rw [List.mem_filterMap]
  refine ⟨i, List.mem_range.mpr (List.getElem?_eq_some_iff.mp h).1, ?_⟩
  rw [h]
  exact am_lvx_some hv
theorem am_lv_has {ad : Nat → Nat} {ls : Array Slot} {nL : Nat} {L : List Value} (h : am_lh ad ls nL L) : lv_has ls nL (am_lv ad L) := by
  refine ⟨h.1, h.2.1, fun q hq => ?_⟩
  unfold am_lv at hq
  rw [List.mem_filterMap] at hq
  obtain ⟨i, -, hi⟩ := hq
  obtain ⟨v, hL, hv, rfl⟩ := am_lvx_inv hi
  exact h.2.2 i v hL hv
theorem am_kill_s {L : List Value} {i : Nat} {v : Value} (h : L[i]? = some v) : am_kill L (i + 1) = if v.category = 2 then L.set i am_un else L := by
  simp only [am_kill, h]
theorem am_kill_n {L : List Value} {i : Nat} (h : L[i]? = none) : am_kill L (i + 1) = L := by
  simp only [am_kill, h]
theorem am_kill_get {L : List Value} {i j : Nat} {w : Value} (hw : ∀ q, w ≠ .retAddr q) (h : (am_kill L i)[j]? = some w) : L[j]? = some w ∧ ¬ (j + 1 = i ∧ w.category = 2) := by
  cases i with
  | zero => exact ⟨h, fun q => by omega⟩
  | succ i =>
    cases hv : L[i]? with
    | some v =>
      rw [am_kill_s hv] at h
      by_cases hc : v.category = 2
      · rw [if_pos hc] at h
        by_cases hj : j = i
        · subst hj
          rw [List.getElem?_set_self (List.getElem?_eq_some_iff.mp hv).1] at h
          cases h
          exact absurd rfl (hw 0)
        · rw [List.getElem?_set_ne (Ne.symm hj)] at h
          exact ⟨h, fun q => hj (by omega)⟩
      · rw [if_neg hc] at h
        refine ⟨h, fun q => ?_⟩
        obtain ⟨q1, q2⟩ := q
        obtain rfl : j = i := by omega
        rw [hv] at h
        cases h
        exact hc q2
    | none =>
      rw [am_kill_n hv] at h
      refine ⟨h, fun q => ?_⟩
      obtain ⟨q1, q2⟩ := q
      obtain rfl : j = i := by omega
      rw [hv] at h
      cases h
theorem am_kill_len (L : List Value) (i : Nat) : (am_kill L i).length = L.length := by
  cases i with
  | zero => rfl
  | succ i =>
    cases hv : L[i]? with
    | some v =>
      rw [am_kill_s hv]
      by_cases hc : v.category = 2
      · rw [if_pos hc, List.length_set]
      · rw [if_neg hc]
    | none => rw [am_kill_n hv]
theorem am_set1_len (L : List Value) (i : Nat) (v : Value) : (am_set1 L i v).length = L.length := by unfold am_set1; rw [List.length_set, am_kill_len]
theorem am_set2_len (L : List Value) (i : Nat) (v : Value) : (am_set2 L i v).length = L.length := by unfold am_set2; rw [List.length_set, List.length_set, am_kill_len]
theorem am_lh_set1 {ad : Nat → Nat} {ls : Array Slot} {nL : Nat} {L : List Value} {i : Nat} {v : Value} (h : lv_has ls nL ((i, am_tv ad v) :: (am_lv ad L).filter (fun q => !(q.1 == i) && !(q.1 + 1 == i && q.2.category == 2)))) : am_lh ad ls nL (am_set1 L i v) := by
  refine ⟨h.1, h.2.1, fun j w hj hw => ?_⟩
  unfold am_set1 at hj
  by_cases hji : j = i
  · subst hji
    have hl : j < (am_kill L j).length := by
      have := (List.getElem?_eq_some_iff.mp hj).1
      rwa [List.length_set] at this
    rw [List.getElem?_set_self hl] at hj
    cases hj
    exact h.2.2 (j, am_tv ad v) List.mem_cons_self
  · rw [List.getElem?_set_ne (Ne.symm hji)] at hj
    obtain ⟨h1, h2⟩ := am_kill_get hw hj
    refine h.2.2 (j, am_tv ad w) (List.mem_cons_of_mem _ (List.mem_filter.mpr ⟨am_lv_mem h1 hw, ?_⟩))
    simp only [am_tv_cat, Bool.and_eq_true, Bool.not_eq_true', beq_eq_false_iff_ne, ne_eq, Bool.and_eq_false_iff]
    refine ⟨hji, ?_⟩
    by_cases hq : j + 1 = i
    · exact Or.inr (fun hc => h2 ⟨hq, hc⟩)
    · exact Or.inl hq
theorem am_lh_set2 {ad : Nat → Nat} {ls : Array Slot} {nL : Nat} {L : List Value} {i : Nat} {v : Value} (h : lv_has ls nL ((i, am_tv ad v) :: (am_lv ad L).filter (fun q => !(q.1 == i) && (!(q.1 == i + 1) && !(q.1 + 1 == i && q.2.category == 2))))) : am_lh ad ls nL (am_set2 L i v) := by
  refine ⟨h.1, h.2.1, fun j w hj hw => ?_⟩
  unfold am_set2 at hj
  by_cases hj1 : j = i + 1
  · subst hj1
    have hl := (List.getElem?_eq_some_iff.mp hj).1
    rw [List.length_set] at hl
    rw [List.getElem?_set_self hl] at hj
    cases hj
    exact absurd rfl (hw 0)
  rw [List.getElem?_set_ne (Ne.symm hj1)] at hj
  by_cases hji : j = i
  · subst hji
    have hl : j < (am_kill L j).length := by
      have := (List.getElem?_eq_some_iff.mp hj).1
      rwa [List.length_set] at this
    rw [List.getElem?_set_self hl] at hj
    cases hj
    exact h.2.2 (j, am_tv ad v) List.mem_cons_self
  · rw [List.getElem?_set_ne (Ne.symm hji)] at hj
    obtain ⟨h1, h2⟩ := am_kill_get hw hj
    refine h.2.2 (j, am_tv ad w) (List.mem_cons_of_mem _ (List.mem_filter.mpr ⟨am_lv_mem h1 hw, ?_⟩))
    simp only [am_tv_cat, Bool.and_eq_true, Bool.not_eq_true', beq_eq_false_iff_ne, ne_eq, Bool.and_eq_false_iff]
    refine ⟨hji, hj1, ?_⟩
    by_cases hq : j + 1 = i
    · exact Or.inr (fun hc => h2 ⟨hq, hc⟩)
    · exact Or.inl hq
