/-! what the sound step stands on: inversions, classes, fields, entries -/
theorem am_isI_some {v : Option Value} {k : Int32 → am_O} {r : Option Value × am_M} (h : am_isI v k = some r) : ∃ x, v = some (.int x) ∧ k x = some r := by
  unfold am_isI at h; split at h
  · exact ⟨_, rfl, h⟩
  · cases h
theorem am_isL_some {v : Option Value} {k : Int64 → am_O} {r : Option Value × am_M} (h : am_isL v k = some r) : ∃ x, v = some (.long x) ∧ k x = some r := by
  unfold am_isL at h; split at h
  · exact ⟨_, rfl, h⟩
  · cases h
theorem am_isR_some {v : Option Value} {k : Nat → am_O} {r : Option Value × am_M} (h : am_isR v k = some r) : ∃ x, v = some (.ref x) ∧ k x = some r := by
  unfold am_isR at h; split at h
  · exact ⟨_, rfl, h⟩
  · cases h
theorem am_p2_some {st : List Value} {k : Int32 → Int32 → List Value → am_O} {r : Option Value × am_M} (h : am_p2 st k = some r) : ∃ x y q, st = .int y :: .int x :: q ∧ k x y q = some r := by
  unfold am_p2 at h; split at h
  · exact ⟨_, _, _, rfl, h⟩
  · cases h
theorem am_p2L_some {st : List Value} {k : Int64 → Int64 → List Value → am_O} {r : Option Value × am_M} (h : am_p2L st k = some r) : ∃ x y q, st = .long y :: .long x :: q ∧ k x y q = some r := by
  unfold am_p2L at h; split at h
  · exact ⟨_, _, _, rfl, h⟩
  · cases h
theorem am_p1_some {st : List Value} {k : Int32 → List Value → am_O} {r : Option Value × am_M} (h : am_p1 st k = some r) : ∃ x q, st = .int x :: q ∧ k x q = some r := by
  unfold am_p1 at h; split at h
  · exact ⟨_, _, rfl, h⟩
  · cases h
theorem am_p1L_some {st : List Value} {k : Int64 → List Value → am_O} {r : Option Value × am_M} (h : am_p1L st k = some r) : ∃ x q, st = .long x :: q ∧ k x q = some r := by
  unfold am_p1L at h; split at h
  · exact ⟨_, _, rfl, h⟩
  · cases h
theorem am_pR_some {st : List Value} {k : Nat → List Value → am_O} {r : Option Value × am_M} (h : am_pR st k = some r) : ∃ x q, st = .ref x :: q ∧ k x q = some r := by
  unfold am_pR at h; split at h
  · exact ⟨_, _, rfl, h⟩
  · cases h
theorem am_pIR_some {st : List Value} {k : Int32 → Nat → List Value → am_O} {r : Option Value × am_M} (h : am_pIR st k = some r) : ∃ i a q, st = .int i :: .ref a :: q ∧ k i a q = some r := by
  unfold am_pIR at h; split at h
  · exact ⟨_, _, _, rfl, h⟩
  · cases h
theorem am_pVIR_some {st : List Value} {k : Value → Int32 → Nat → List Value → am_O} {r : Option Value × am_M} (h : am_pVIR st k = some r) : ∃ v i a q, st = v :: .int i :: .ref a :: q ∧ k v i a q = some r := by
  unfold am_pVIR at h; split at h
  · exact ⟨_, _, _, _, rfl, h⟩
  · cases h
theorem am_pVR_some {st : List Value} {k : Value → Nat → List Value → am_O} {r : Option Value × am_M} (h : am_pVR st k = some r) : ∃ v a q, st = v :: .ref a :: q ∧ k v a q = some r := by
  unfold am_pVR at h; split at h
  · exact ⟨_, _, _, rfl, h⟩
  · cases h
theorem am_call_some {q : am_O} {k : Option Value → am_M → am_O} {r : Option Value × am_M} (h : am_call q k = some r) : ∃ v M, q = some (v, M) ∧ k v M = some r := by
  unfold am_call at h; split at h
  · exact ⟨_, _, rfl, h⟩
  · cases h
theorem am_ite_some {c : Prop} [Decidable c] {a : am_O} {r : Option Value × am_M} (h : (if c then a else none) = some r) : c ∧ a = some r := by
  by_cases hc : c
  · rw [if_pos hc] at h; exact ⟨hc, h⟩
  · rw [if_neg hc] at h; cases h
theorem am_ite_none {c : Prop} [Decidable c] {a : am_O} {r : Option Value × am_M} (h : (if c then none else a) = some r) : ¬ c ∧ a = some r := by
  by_cases hc : c
  · rw [if_pos hc] at h; cases h
  · rw [if_neg hc] at h; exact ⟨hc, h⟩
/-- classes -/
theorem am_cl (c : Nat) (h : c < 13) : vwCl[c]? = some (am_cn c, am_ct c, am_nf c) := by
  match c, h with
  | 0, _ => rfl
  | 1, _ => rfl
  | 2, _ => rfl
  | 3, _ => rfl
  | 4, _ => rfl
  | 5, _ => rfl
  | 6, _ => rfl
  | 7, _ => rfl
  | 8, _ => rfl
  | 9, _ => rfl
  | 10, _ => rfl
  | 11, _ => rfl
  | 12, _ => rfl
theorem am_tyok (c : Nat) (h : c < 13) : ∀ k, k < am_nf c → parseFieldDescriptor (am_ct c k).2.2.1 = some (am_fty c k) := by
  match c, h with
  | 0, _ => exact tyX0_ok
  | 1, _ => exact tyX1_ok
  | 2, _ => exact tyX2_ok
  | 3, _ => exact tyX3_ok
  | 4, _ => exact tyX4_ok
  | 5, _ => exact tyX5_ok
  | 6, _ => exact tyX6_ok
  | 7, _ => exact tyX7_ok
  | 8, _ => exact tyX8_ok
  | 9, _ => exact tyX9_ok
  | 10, _ => exact tyX10_ok
  | 11, _ => exact tyX11_ok
  | 12, _ => exact tyX12_ok
theorem am_nmok (c : Nat) (h : c < 13) : ∀ a, a < am_nf c → ∀ b, b < am_nf c → a ≠ b → (am_ct c a).2.1 ≠ (am_ct c b).2.1 := by
  match c, h with
  | 0, _ => exact nmX0
  | 1, _ => exact nmX1
  | 2, _ => exact nmX2
  | 3, _ => exact nmX3
  | 4, _ => exact nmX4
  | 5, _ => exact nmX5
  | 6, _ => exact nmX6
  | 7, _ => exact nmX7
  | 8, _ => exact nmX8
  | 9, _ => exact nmX9
  | 10, _ => exact nmX10
  | 11, _ => exact nmX11
  | 12, _ => exact nmX12
def am_fkOk (ty : FieldType) (k : Nat) : Bool := match ty with
  | .int => Nat.beq k 0
  | .long => Nat.beq k 1
  | .boolean => Nat.beq k 3
  | .object _ => Nat.beq k 2
  | .array _ => Nat.beq k 2
  | _ => false
theorem am_fkall : ∀ c, c < 13 → ∀ k, k < am_nf c → am_fkOk (am_fty c k) (am_fk c k) = true := by decide +kernel
/-- entries -/
theorem am_wE_congr {cid : Nat → ClassId} {ad : Nat → Nat} {M M' : am_M} {k : Nat} (h1 : ∀ j, M'.1 k j = M.1 k j) (h2 : ∀ j, M'.2.1 k j = M.2.1 k j) (h3 : ∀ j, M'.2.2.1 k j = M.2.2.1 k j) (h4 : M'.2.2.2.1 k = M.2.2.2.1 k) : am_wE cid ad M' k = am_wE cid ad M k := by
  have e1 : M'.1 k = M.1 k := funext h1
  have e2 : M'.2.1 k = M.2.1 k := funext h2
  have e3 : M'.2.2.1 k = M.2.2.1 k := funext h3
  have e5 : ∀ j kd, am_gf M' k j kd = am_gf M k j kd := by
    intro j kd
    unfold am_gf
    rw [e1, e2, e3]
  unfold am_wE
  rw [h4, e1, e2, e3]
  simp only [e5]
theorem am_wE_o {cid : Nat → ClassId} {ad : Nat → Nat} {M : am_M} {k ci : Nat} (h : (M.2.2.2.1 k).1 = ci) (hc : ci < 13) : am_wE cid ad M k = .inr (ci, (List.range (M.2.2.2.1 k).2).map fun j => am_tv ad (am_gf M k j (am_fk ci j))) := by
  unfold am_wE
  rw [if_pos (by rw [h]; exact hc), h]
theorem am_wE_i {cid : Nat → ClassId} {ad : Nat → Nat} {M : am_M} {k : Nat} (h : (M.2.2.2.1 k).1 = 20) : am_wE cid ad M k = .inl (cid 20, (M.2.2.2.1 k).2, .inl (M.1 k)) := by
  unfold am_wE
  rw [if_neg (by rw [h]; decide), if_pos (Or.inl h), h]
theorem am_wE_z {cid : Nat → ClassId} {ad : Nat → Nat} {M : am_M} {k : Nat} (h : (M.2.2.2.1 k).1 = 22) : am_wE cid ad M k = .inl (cid 22, (M.2.2.2.1 k).2, .inl (M.1 k)) := by
  unfold am_wE
  rw [if_neg (by rw [h]; decide), if_pos (Or.inr h), h]
theorem am_wE_l {cid : Nat → ClassId} {ad : Nat → Nat} {M : am_M} {k : Nat} (h : (M.2.2.2.1 k).1 = 21) : am_wE cid ad M k = .inl (cid 21, (M.2.2.2.1 k).2, .inr (.inl (M.2.1 k))) := by
  unfold am_wE
  rw [if_neg (by rw [h]; decide), if_neg (by rw [h]; decide), if_pos h]
theorem am_wE_q {cid : Nat → ClassId} {ad : Nat → Nat} {M : am_M} {k kd : Nat} (h : (M.2.2.2.1 k).1 = kd) (h1 : 23 ≤ kd) : am_wE cid ad M k = .inl (cid kd, (M.2.2.2.1 k).2, .inr (.inr (.inr (.inr fun j => (M.2.2.1 k j).map ad)))) := by
  unfold am_wE
  rw [if_neg (by omega), if_neg (by omega), if_neg (by omega), h]
/-- every cell is an object of its class's length, or an array -/
def am_okS (M : am_M) : Prop := ∀ k, k < M.2.2.2.2.1 → ((M.2.2.2.1 k).1 < 13 ∧ (M.2.2.2.1 k).2 = am_nf (M.2.2.2.1 k).1) ∨ (20 ≤ (M.2.2.2.1 k).1 ∧ (M.2.2.2.1 k).1 ≤ 27)
theorem am_okS_len {M : am_M} (h : am_okS M) {k ci : Nat} (ha : am_at M k ci) (hc : ci < 13) : (M.2.2.2.1 k).2 = am_nf ci := by
  rcases h k ha.2 with q | q
  · rw [q.2, ha.1]
  · have := ha.1; omega
theorem am_u2_ne {α : Type} {I : Nat → Nat → α} {k j a : Nat} {x : α} (h : a ≠ k) (b : Nat) : am_u2 I k j x a b = I a b := by
  unfold am_u2; rw [if_neg (fun q => h q.1)]
theorem am_wsI {cid : Nat → ClassId} {ad : Nat → Nat} {M : am_M} {k j : Nat} {x : Int32} {e : va_E} (he : am_wE cid ad (am_sI M k j x) k = e) : (am_ws cid ad M).set k (ad k, e) = am_ws cid ad (am_sI M k j x) :=
  am_ws_set rfl he (fun _ hi => am_wE_congr (am_u2_ne hi) (fun _ => rfl) (fun _ => rfl) rfl)
theorem am_wsL {cid : Nat → ClassId} {ad : Nat → Nat} {M : am_M} {k j : Nat} {x : Int64} {e : va_E} (he : am_wE cid ad (am_sL M k j x) k = e) : (am_ws cid ad M).set k (ad k, e) = am_ws cid ad (am_sL M k j x) :=
  am_ws_set rfl he (fun _ hi => am_wE_congr (fun _ => rfl) (am_u2_ne hi) (fun _ => rfl) rfl)
theorem am_wsR {cid : Nat → ClassId} {ad : Nat → Nat} {M : am_M} {k j : Nat} {x : Option Nat} {e : va_E} (he : am_wE cid ad (am_sR M k j x) k = e) : (am_ws cid ad M).set k (ad k, e) = am_ws cid ad (am_sR M k j x) :=
  am_ws_set rfl he (fun _ hi => am_wE_congr (fun _ => rfl) (fun _ => rfl) (am_u2_ne hi) rfl)
theorem am_u2_upd (I : Nat → Nat → Int32) (k j : Nat) (x : Int32) : am_u2 I k j x k = upd (I k) j x := by
  funext b; unfold am_u2 upd; by_cases h : b = j <;> simp [h]
theorem am_u2_updL (I : Nat → Nat → Int64) (k j : Nat) (x : Int64) : am_u2 I k j x k = vp_updL (I k) j x := by
  funext b; unfold am_u2 vp_updL; by_cases h : b = j <;> simp [h]
theorem am_set_map {n j : Nat} {f g : Nat → Value} {v : Value} (hv : g j = v) (ho : ∀ i, i ≠ j → g i = f i) : ((List.range n).map f).set j v = (List.range n).map g := by
  apply List.ext_getElem?
  intro i
  by_cases hi : i < n
  · by_cases hij : i = j
    · subst hij
      rw [List.getElem?_set_self (by simpa using hi)]
      simp [hi, hv]
    · rw [List.getElem?_set_ne (Ne.symm hij)]
      simp [hi, ho i hij]
  · simp [hi]
