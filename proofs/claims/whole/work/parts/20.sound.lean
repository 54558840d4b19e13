/-! THE ABSTRACT MACHINE IS SOUND. -/
theorem am_rtk : ∀ mi, mi < 293 → (am_rk mi = 0 ∧ am_rt mi = none) ∨ (am_rk mi = 1 ∧ am_rt mi = some .int) ∨ (am_rk mi = 2 ∧ am_rt mi = some .boolean) ∨ (am_rk mi = 3 ∧ am_rt mi = some .long) := by decide +kernel
theorem am_initrt : ∀ mi, mi < 293 → am_sk mi = 1 → am_rt mi = none := by decide +kernel
theorem am_clamp {n : Int32} {b : Nat} (h : ¬ Int32.ofNat b < n) (hb : b < 2 ^ 31) : n.toNatClampNeg ≤ b := by
  have h1 : n ≤ Int32.ofNat b := Int32.not_lt.mp h
  have h2 := Int32.le_iff_toInt_le.mp h1
  rw [Int32.toInt_ofNat_small hb] at h2
  show n.toInt.toNat ≤ b
  omega
theorem am_MLin {own idx a : Nat} (h : (am_MLt.any fun q => Nat.beq q.1 own && Nat.beq q.2.1 idx && Nat.beq q.2.2.1 a) = true) : Cond.methodLink (am_cn own) idx (am_y a) ∈ am_W := by
  obtain ⟨x, hx, h⟩ := List.any_eq_true.mp h
  simp only [Bool.and_eq_true] at h
  have := am_ML x hx
  rw [Nat.eq_of_beq_eq_true h.1.1, Nat.eq_of_beq_eq_true h.1.2, Nat.eq_of_beq_eq_true h.2] at this
  exact am_goodW1 this rfl
theorem am_MNin {own idx a : Nat} (h : (am_MNt.any fun q => Nat.beq q.1 own && Nat.beq q.2.1 idx && Nat.beq q.2.2.1 a) = true) {ad : Nat → Nat} {A : Nat → Prop} {s : State} {H : Heap} (hRO : am_RO ad A s H) : va_Nw (.methodLinkNest (am_cn own) idx (am_y a) "TyreWorks") s := by
  obtain ⟨x, hx, h⟩ := List.any_eq_true.mp h
  simp only [Bool.and_eq_true] at h
  have := hRO.2.2.2.2.2.1 x hx
  rw [Nat.eq_of_beq_eq_true h.1.1, Nat.eq_of_beq_eq_true h.1.2, Nat.eq_of_beq_eq_true h.2] at this
  exact this
theorem am_fty_of {c k : Nat} (hc : c < 13) (hk : k < am_nf c) : (am_fk c k = 0 → am_fty c k = .int) ∧ (am_fk c k = 1 → am_fty c k = .long) ∧ (am_fk c k = 3 → am_fty c k = .boolean) ∧ (am_fk c k = 2 → (∃ n, am_fty c k = .object n) ∨ ∃ t, am_fty c k = .array t) ∧ am_fk c k < 4 := by
  have := am_fkall c hc k hk
  unfold am_fkOk at this
  split at this
  · rename_i hh; rw [hh, Nat.eq_of_beq_eq_true this]; exact ⟨fun _ => rfl, fun h => by omega, fun h => by omega, fun h => by omega, by omega⟩
  · rename_i hh; rw [hh, Nat.eq_of_beq_eq_true this]; exact ⟨fun h => by omega, fun _ => rfl, fun h => by omega, fun h => by omega, by omega⟩
  · rename_i hh; rw [hh, Nat.eq_of_beq_eq_true this]; exact ⟨fun h => by omega, fun h => by omega, fun _ => rfl, fun h => by omega, by omega⟩
  · rename_i hh; rw [hh, Nat.eq_of_beq_eq_true this]; exact ⟨fun h => by omega, fun h => by omega, fun h => by omega, fun _ => Or.inl ⟨_, rfl⟩, by omega⟩
  · rename_i hh; rw [hh, Nat.eq_of_beq_eq_true this]; exact ⟨fun h => by omega, fun h => by omega, fun h => by omega, fun _ => Or.inr ⟨_, rfl⟩, by omega⟩
  · cases this
theorem am_gf_sI {M : am_M} {k j i kd : Nat} {x : Int32} (h : i ≠ j) : am_gf (am_sI M k j x) k i kd = am_gf M k i kd := by
  unfold am_gf am_sI am_u2; split <;> simp [h]
theorem am_gf_sL {M : am_M} {k j i kd : Nat} {x : Int64} (h : i ≠ j) : am_gf (am_sL M k j x) k i kd = am_gf M k i kd := by
  unfold am_gf am_sL am_u2; split <;> simp [h]
theorem am_gf_sR {M : am_M} {k j i kd : Nat} {x : Option Nat} (h : i ≠ j) : am_gf (am_sR M k j x) k i kd = am_gf M k i kd := by
  unfold am_gf am_sR am_u2; split <;> simp [h]
section SPF
variable {p : Program} {l : Launch} {e : Env} {R : Room} {s : State} {m : MethodId} {args : Array Value} {below : List Frame} {meth : Method} {c : Code} {D : va_G} {cid : Nat → ClassId} {ad : Nat → Nat} {A : Nat → Prop} {Q : State → Prop}
variable {mi pc : Nat} {f : Nat → List Value → List Value → am_M → am_O} {L st : List Value} {M M' M0 M1 : am_M} {r r0 : Option Value} {H : Heap} {locs : List Loc} {ls : Array Slot} {k d : Nat} {q : List Value}
/-- a field's write, by its kind -/
theorem am_s_pf (C : am_Cx p R s m args meth c mi) (hK : va_K D vwCl (am_tys cid) s) (kf : am_kf p l e R s m args below meth c D cid ad A Q mi f M0 M1 r) (hI : am_I D cid ad A s mi M0 M H locs ls L) {idx ci j : Nat} {v : Value} (hd : decode (am_c mi) pc = .ok (.putfield idx, 3)) (hl : (am_FLt.any fun q => Nat.beq q.1 (am_own mi) && Nat.beq q.2.1 idx && Nat.beq q.2.2.1 ci && Nat.beq q.2.2.2.1 j) = true) (hci : ci < 13) (hj : j < am_nf ci) (ha : am_at M k ci) (hfin : (am_ct ci j).2.2.2 = false ∨ (am_sk mi = 1 ∧ am_own mi = ci)) (h : am_pf M k j (am_fk ci j) v (fun M => f (pc + 3) L q M) = some (r, M1)) :
    W p l e R s m args below meth c H locs (M.2.2.2.2.1 - M0.2.2.2.2.1) (M.2.2.2.2.2 - M0.2.2.2.2.2) Q (F0 m pc ls (am_tv ad v :: .ref (ad k) :: q.map (am_tv ad))) := by
  obtain ⟨t0, t1, t3, t2, t4⟩ := am_fty_of hci hj
  generalize hkd : am_fk ci j = kd at h t0 t1 t2 t3 t4
  unfold am_pf at h
  split at h
  · split at h
    · rename_i x
      exact am_s_put C hK kf hI hd hl hci hj ha hfin (by rw [t0 rfl]; rfl) (by rw [t0 rfl]; rfl) (M' := am_sI M k j x) rfl (by rw [hkd]; simp [am_gf, am_sI, am_u2]) (fun i kd hi => am_gf_sI hi) (fun i hi => am_wE_congr (am_u2_ne hi) (fun _ => rfl) (fun _ => rfl) rfl) h
    · cases h
  · split at h
    · rename_i x
      exact am_s_put C hK kf hI hd hl hci hj ha hfin (by rw [t1 rfl]; rfl) (by rw [t1 rfl]; rfl) (M' := am_sL M k j x) rfl (by rw [hkd]; simp [am_gf, am_sL, am_u2]) (fun i kd hi => am_gf_sL hi) (fun i hi => am_wE_congr (fun _ => rfl) (am_u2_ne hi) (fun _ => rfl) rfl) h
    · cases h
  · split at h
    · rename_i x
      refine am_s_put C hK kf hI hd hl hci hj ha hfin ?_ ?_ (M' := am_sR M k j (some x)) rfl (by rw [hkd]; simp [am_gf, am_sR, am_u2, va_rf]) (fun i kd hi => am_gf_sR hi) (fun i hi => am_wE_congr (fun _ => rfl) (fun _ => rfl) (am_u2_ne hi) rfl) h
      · rcases t2 rfl with ⟨n, z⟩ | ⟨n, z⟩ <;> rw [z] <;> rfl
      · rcases t2 rfl with ⟨n, z⟩ | ⟨n, z⟩ <;> rw [z] <;> rfl
    · refine am_s_put C hK kf hI hd hl hci hj ha hfin ?_ ?_ (M' := am_sR M k j none) rfl (by rw [hkd]; simp [am_gf, am_sR, am_u2, va_rf]) (fun i kd hi => am_gf_sR hi) (fun i hi => am_wE_congr (fun _ => rfl) (fun _ => rfl) (am_u2_ne hi) rfl) h
      · rcases t2 rfl with ⟨n, z⟩ | ⟨n, z⟩ <;> rw [z] <;> rfl
      · rcases t2 rfl with ⟨n, z⟩ | ⟨n, z⟩ <;> rw [z] <;> rfl
    · cases h
  · rename_i z0 z1 z2
    have hk3 : kd = 3 := by
      have : kd ≠ 0 := fun q => z0 q
      have : kd ≠ 1 := fun q => z1 q
      have : kd ≠ 2 := fun q => z2 q
      omega
    subst hk3
    split at h
    · rename_i x
      obtain ⟨hx, h⟩ := am_ite_some h
      refine am_s_put C hK kf hI hd hl hci hj ha hfin ?_ ?_ (M' := am_sI M k j x) rfl (by rw [hkd]; simp [am_gf, am_sI, am_u2]) (fun i kd hi => am_gf_sI hi) (fun i hi => am_wE_congr (am_u2_ne hi) (fun _ => rfl) (fun _ => rfl) rfl) h
      · rw [t3 rfl]; rcases hx with rfl | rfl <;> rfl
      · rw [t3 rfl]; rcases hx with rfl | rfl <;> rfl
    · cases h
end SPF
