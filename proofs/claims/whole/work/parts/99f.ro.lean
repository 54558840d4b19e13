/-! THE LAW: what is given at its start of texts and constants; the classes -/
def lw_tm (i : Nat) : Term := match i with
  | 0 => .string "TyreWorks$Text" 29
  | _ => .string "TyreWorks$Text" 107
abbrev lw_fl : List Cond := flatC (Jvm.Cond.and given_1 narrow_1)
set_option maxRecDepth 100000 in
set_option maxHeartbeats 0 in
theorem lw_m1 : ∀ i, i < 2 → Cond.exactly (lw_tm i) "java/lang/String" ∈ lw_fl ∧ Cond.eq (.field (lw_tm i) "java/lang/String" "coder" "B") (.int 0) ∈ lw_fl ∧ Cond.arrayOf (.field (lw_tm i) "java/lang/String" "value" "[B") .byte ∈ lw_fl ∧ Cond.eq (.length (.field (lw_tm i) "java/lang/String" "value" "[B")) (.int (Int32.ofNat (([192, 14] : List Nat).getD i 0))) ∈ lw_fl := by decide +kernel
set_option maxRecDepth 100000 in
set_option maxHeartbeats 0 in
theorem lw_n0 : ∀ j, j < 48 → lw_fl[77 + j]? = some (Cond.eq (.elem (.field (lw_tm 0) "java/lang/String" "value" "[B") (.int (Int32.ofNat (0 + j)))) (.int ((am_txt 0).getD (0 + j) 0))) := by decide +kernel
set_option maxRecDepth 100000 in
set_option maxHeartbeats 0 in
theorem lw_n1 : ∀ j, j < 48 → lw_fl[125 + j]? = some (Cond.eq (.elem (.field (lw_tm 0) "java/lang/String" "value" "[B") (.int (Int32.ofNat (48 + j)))) (.int ((am_txt 0).getD (48 + j) 0))) := by decide +kernel
set_option maxRecDepth 100000 in
set_option maxHeartbeats 0 in
theorem lw_n2 : ∀ j, j < 48 → lw_fl[173 + j]? = some (Cond.eq (.elem (.field (lw_tm 0) "java/lang/String" "value" "[B") (.int (Int32.ofNat (96 + j)))) (.int ((am_txt 0).getD (96 + j) 0))) := by decide +kernel
set_option maxRecDepth 100000 in
set_option maxHeartbeats 0 in
theorem lw_n3 : ∀ j, j < 48 → lw_fl[221 + j]? = some (Cond.eq (.elem (.field (lw_tm 0) "java/lang/String" "value" "[B") (.int (Int32.ofNat (144 + j)))) (.int ((am_txt 0).getD (144 + j) 0))) := by decide +kernel
set_option maxRecDepth 100000 in
set_option maxHeartbeats 0 in
theorem lw_n4 : ∀ j, j < 14 → lw_fl[273 + j]? = some (Cond.eq (.elem (.field (lw_tm 1) "java/lang/String" "value" "[B") (.int (Int32.ofNat (j)))) (.int ((am_txt 1).getD (j) 0))) := by decide +kernel
theorem lw_m2 : ∀ i, i < 2 → ∀ j, j < ([192, 14] : List Nat).getD i 0 → Cond.eq (.elem (.field (lw_tm i) "java/lang/String" "value" "[B") (.int (Int32.ofNat j))) (.int ((([am_txt 0, am_txt 1] : List (List Int32)).getD i []).getD j 0)) ∈ lw_fl := by
  intro i hi j hj
  rcases (by omega : i = 0 ∨ i = 1) with rfl | rfl
  · have hj : j < 192 := hj
    rcases (by omega : j < 48 ∨ (48 ≤ j ∧ j < 96) ∨ (96 ≤ j ∧ j < 144) ∨ (144 ≤ j ∧ j < 192)) with h | ⟨h, h2⟩ | ⟨h, h2⟩ | ⟨h, h2⟩
    · have := lw_n0 j h
      rw [Nat.zero_add] at this
      exact List.mem_of_getElem? this
    · have := lw_n1 (j - 48) (by omega)
      rw [show 48 + (j - 48) = j by omega] at this
      exact List.mem_of_getElem? this
    · have := lw_n2 (j - 96) (by omega)
      rw [show 96 + (j - 96) = j by omega] at this
      exact List.mem_of_getElem? this
    · have := lw_n3 (j - 144) (by omega)
      rw [show 144 + (j - 144) = j by omega] at this
      exact List.mem_of_getElem? this
  · exact List.mem_of_getElem? (lw_n4 j hj)
set_option maxRecDepth 100000 in
theorem lw_m3 : Cond.not (Cond.eq (lw_tm 0) (lw_tm 1)) ∈ lw_fl := by decide +kernel
set_option maxRecDepth 100000 in
theorem lw_m4 : Cond.arrayOf (.static "TyreWorks$Plan" "MOST_TOLD" "[I") .int ∈ lw_fl ∧ Cond.eq (.length (.static "TyreWorks$Plan" "MOST_TOLD" "[I")) (.int (Int32.ofNat 9)) ∈ lw_fl ∧ (∀ j, j < 9 → Cond.eq (.elem (.static "TyreWorks$Plan" "MOST_TOLD" "[I") (.int (Int32.ofNat j))) (.int (am_ro j)) ∈ lw_fl) ∧ Cond.eq (.static "java/lang/String" "COMPACT_STRINGS" "Z") (.int 1) ∈ lw_fl ∧ Cond.isRef (.static "jdk/internal/util/Preconditions" "SIOOBE_FORMATTER" "Ljava/util/function/BiFunction;") ∈ lw_fl := by decide +kernel
set_option maxRecDepth 100000 in
theorem lw_m5 : Cond.laysStatic "TyreWorks$Plan" "MOST_TOLD" "[I" ∈ tables_1 ∧ Cond.initialized "TyreWorks$Plan" ∈ tables_1 ∧ Cond.laysStatic "java/lang/String" "COMPACT_STRINGS" "Z" ∈ tables_1 ∧ Cond.initialized "java/lang/String" ∈ tables_1 ∧ Cond.laysStatic "jdk/internal/util/Preconditions" "SIOOBE_FORMATTER" "Ljava/util/function/BiFunction;" ∈ tables_1 ∧ Cond.initialized "jdk/internal/util/Preconditions" ∈ tables_1 ∧ Cond.stringRef "TyreWorks$Text" 29 am_tx0 ∈ tables_1 ∧ Cond.stringRef "TyreWorks$Text" 107 am_tx1 ∈ tables_1 := by decide +kernel
set_option maxRecDepth 100000 in
theorem lw_m6 : ∀ ty ∈ am_aov, Cond.arrayOver ty ∈ tables_1 := by decide +kernel
theorem lw_inT {w : Cond} (h : w ∈ tables_1) : w ∈ lw_tbl := List.mem_append_right _ h
section LRO
variable {p : Program} {s : State} {m : MethodId} {meth : Method} {c : Code} {b L : Nat} {xs : Nat → Int32}
abbrev lw_A0 (s : State) : Nat → Prop := fun q => s.heap.size ≤ q
theorem ro_start (C0 : lw_At p s m meth c b L xs) : ∃ adr : Nat → Nat, am_RO adr (lw_A0 s) s s.heap := by
  obtain ⟨hx, hb, hr, hml, hown, hts, hX, hbl, hlocks, hgv⟩ := C0
  have hf := flat_of_before _ hgv
  have hA : ∀ a : Nat, a < s.heap.size → ¬ lw_A0 s a := fun a h => Nat.not_le.mpr h
  have ht := fun (w : Cond) (h : w ∈ tables_1) => hts w (lw_inT h)
  obtain ⟨adK, adV, hS, hE⟩ := vk_Sof (args := #[Value.ref b]) (s := s) (N := 2) (tm := lw_tm) (len := [192, 14]) (byt := [am_txt 0, am_txt 1]) (A := lw_A0 s) (by decide) (fun i hi => hf _ (lw_m1 i hi).1) (fun i hi => hf _ (lw_m1 i hi).2.1) (fun i hi => hf _ (lw_m1 i hi).2.2.1) (fun i hi => hf _ (lw_m1 i hi).2.2.2) (fun i hi j hj => hf _ (lw_m2 i hi j hj)) (fun i j hi hj hij => by
    rcases (by omega : (i = 0 ∧ j = 1) ∨ (i = 1 ∧ j = 0)) with ⟨rfl, rfl⟩ | ⟨rfl, rfl⟩
    · exact Or.inl (hf _ lw_m3)
    · exact Or.inr (hf _ lw_m3)) hA
  obtain ⟨t, htv, hT⟩ := va_Tof (args := #[Value.ref b]) (s := s) (tm := .static "TyreWorks$Plan" "MOST_TOLD" "[I") (ty := .int) (N := 9) (f := fun j => .int (am_ro j)) (A := lw_A0 s) (by decide) (hf _ lw_m4.1) (va_eqt (hf _ lw_m4.2.1)) (fun j hj => va_eqt (hf _ (lw_m4.2.2.1 j hj))) hA
  refine ⟨fun k => if k = 2000000 then t else if k < 1100000 then adK (k - 1000000) else adV (k - 1100000), ?_⟩
  have e1 : ∀ i, i < 2 → (if 1000000 + i = 2000000 then t else if 1000000 + i < 1100000 then adK (1000000 + i - 1000000) else adV (1000000 + i - 1100000)) = adK i := fun i hi => by
    rw [if_neg (by omega), if_pos (by omega), Nat.add_sub_cancel_left]
  have e2 : ∀ i, i < 2 → (if 1100000 + i = 2000000 then t else if 1100000 + i < 1100000 then adK (1100000 + i - 1000000) else adV (1100000 + i - 1100000)) = adV i := fun i hi => by
    rw [if_neg (by omega), if_neg (by omega), Nat.add_sub_cancel_left]
  refine ⟨hT, va_Zof (ht _ lw_m5.1) (ht _ lw_m5.2.1) htv hA, vk_R.of (A := #[Value.ref b]) ?_ ?_, vk_R.of (A := #[Value.ref b]) ?_ ?_, ⟨⟨fun i hi => ?_, fun i j hi hj e => ?_⟩, va_Zof (ht _ lw_m5.2.2.1) (ht _ lw_m5.2.2.2.1) (va_eqi (hf _ lw_m4.2.2.2.1)) hA, va_Zqof (ht _ lw_m5.2.2.2.2.1) (ht _ lw_m5.2.2.2.2.2.1) (hf _ lw_m4.2.2.2.2) hA⟩, fun q hq => va_Nw.of rfl (ht _ (List.mem_of_getElem? (am_MN q hq))), fun ty hty => ?_⟩
  · exact ht _ lw_m5.2.2.2.2.2.2.1
  · exact hE 0 (by omega)
  · exact ht _ lw_m5.2.2.2.2.2.2.2
  · exact hE 1 (by omega)
  · dsimp only
    rw [e1 i hi, e2 i hi]; exact hS.1 i hi
  · dsimp only at e
    rw [e1 i hi, e1 j hj] at e
    exact hS.2 i j hi hj e
  · exact ht _ (lw_m6 ty hty)
theorem kn_start (C0 : lw_At p s m meth c b L xs) : ∃ (D : va_G) (cid : Nat → ClassId), va_K D vwCl (am_tys cid) s := by
  obtain ⟨hx, hb, hr, hml, hown, hts, hX, hbl, hlocks, hgv⟩ := C0
  have htw : ∀ w ∈ am_W, w.before #[Value.ref b] s = true := fun w hw => hts w (List.mem_filter.mp hw).1
  have ht := fun (w : Cond) (h : w ∈ tables_1) => hts w (lw_inT h)
  have h0 : ∀ k : Nat, ∃ q : ClassId × (Nat → Nat), k < 13 → u_Kn s (am_cn k) (am_ct k) (am_nf k) q.1 q.2 := by
    intro k
    by_cases hk : k < 13
    · obtain ⟨c0, i0, hu⟩ := u_known (C := am_cn k) (T := am_ct k) (N := am_nf k) htw (am_uws k hk) (am_word htw (am_NS k hk) rfl)
      exact ⟨(c0, i0), fun _ => hu⟩
    · exact ⟨(0, fun _ => 0), fun h => absurd h hk⟩
  obtain ⟨dd, hdd⟩ := Classical.axiomOfChoice h0
  obtain ⟨a0, b0, d0, p0, q0, r0⟩ := Cond.arrayClass_spec (am_word htw am_wAI rfl)
  obtain ⟨a1, b1, d1, p1, q1, r1⟩ := Cond.arrayClass_spec (am_word htw am_wAL rfl)
  obtain ⟨a2, b2, d2, p2, q2, r2⟩ := Cond.arrayClass_spec (am_word htw am_wAZ rfl)
  obtain ⟨d3, a3, b3, n3, -, q3, r3, p3⟩ := Cond.arrayOver_spec (n := "TyreWorks$Batch") (ht _ (lw_m6 (.object "TyreWorks$Batch") (by decide)))
  obtain ⟨d4, a4, b4, n4, -, q4, r4, p4⟩ := Cond.arrayOver_spec (n := "TyreWorks$Lot") (ht _ (lw_m6 (.object "TyreWorks$Lot") (by decide)))
  obtain ⟨d5, a5, b5, n5, -, q5, r5, p5⟩ := Cond.arrayOver_spec (n := "TyreWorks$Press") (ht _ (lw_m6 (.object "TyreWorks$Press") (by decide)))
  obtain ⟨d6, a6, b6, n6, -, q6, r6, p6⟩ := Cond.arrayOver_spec (n := "TyreWorks$Tyre") (ht _ (lw_m6 (.object "TyreWorks$Tyre") (by decide)))
  obtain ⟨d7, a7, b7, n7, -, q7, r7, p7⟩ := Stand.arrayOver_specB (t := .int) (ht _ (lw_m6 (.array .int) (by decide)))
  refine ⟨(fun k => (dd k).1, fun k => (dd k).2), fun k => ([a0, a1, a2, a3, a4, a5, a6, a7] : List ClassId).getD (k - 20) 0, fun k q hq => ?_, fun k q hq => ?_⟩
  · have hk : k < 13 := (List.getElem?_eq_some_iff.mp hq).1
    rw [am_cl k hk] at hq
    cases hq
    exact hdd k hk
  · have hk : k < 8 := (List.getElem?_eq_some_iff.mp hq).1
    rcases (by omega : k = 0 ∨ k = 1 ∨ k = 2 ∨ k = 3 ∨ k = 4 ∨ k = 5 ∨ k = 6 ∨ k = 7) with rfl | rfl | rfl | rfl | rfl | rfl | rfl | rfl <;> cases hq
    · exact ⟨fun n z => ⟨fun k h => (by cases h), b0, q0, d0, r0⟩, p0⟩
    · exact ⟨fun n z => ⟨fun k h => (by cases h), b1, q1, d1, r1⟩, p1⟩
    · exact ⟨fun n z => ⟨fun k h => (by cases h), b2, q2, d2, r2⟩, p2⟩
    · exact ⟨fun n z => ⟨fun k h => (by cases h), b3, q3, d3, r3⟩, b3, d3, q3, r3, n3, p3⟩
    · exact ⟨fun n z => ⟨fun k h => (by cases h), b4, q4, d4, r4⟩, b4, d4, q4, r4, n4, p4⟩
    · exact ⟨fun n z => ⟨fun k h => (by cases h), b5, q5, d5, r5⟩, b5, d5, q5, r5, n5, p5⟩
    · exact ⟨fun n z => ⟨fun k h => (by cases h), b6, q6, d6, r6⟩, b6, d6, q6, r6, n6, p6⟩
    · exact ⟨fun n z => ⟨fun k h => (by cases h), b7, q7, d7, r7⟩, p7⟩
end LRO
