/-! THE LAW: its loop, and its start -/
theorem and63 (a : Int32) : ∃ k, k < 64 ∧ a &&& 63 = nI k := by
  refine ⟨(a &&& 63).toBitVec.toNat, ?_, ?_⟩
  · rw [Int32.toBitVec_and, BitVec.toNat_and]
    exact Nat.lt_of_le_of_lt Nat.and_le_right (by decide)
  · apply Int32.toBitVec_inj.mp
    rw [nI_bv, BitVec.ofNat_toNat, BitVec.setWidth_eq]
theorem lt_sub6 {L t : Nat} (hL : L ≤ 3072) (ht : t ≤ 100000) (h : ¬ Int32.ofNat L - 6 < nI t) : t + 6 ≤ L := by
  rcases Nat.lt_or_ge L (t + 6) with z | z
  · exfalso
    apply h
    rw [Int32.lt_iff_toInt_lt]
    have e1 : (Int32.ofNat L - 6).toInt = (L : Int) - 6 := nI_subT (a := L) (b := 6) (by omega) (by omega)
    have e2 : (nI t).toInt = (t : Int) := by
      have := nI_subT (a := t) (b := 0) (by omega) (by omega)
      rw [show nI t - nI 0 = nI t from by rw [nI_sub (by omega) (Nat.zero_le _)]; rfl] at this
      rw [this]; omega
    rw [e1, e2]; omega
  · exact z
section LWS
variable {p : Program} {l : Launch} {e : Env} {s : State} {m : MethodId} {below : List Frame} {meth : Method} {c : Code} {b L : Nat} {xs : Nat → Int32} {D : va_G} {cid : Nat → ClassId} {adr : Nat → Nat}
theorem lw_loop (C0 : lw_At p s m meth c b L xs) (hL : L ≤ 3072) (hK : va_K D vwCl (am_tys cid) s) (hRO : am_RO adr (lw_A0 s) s s.heap) (Jc : tJ) : ∀ (n t : Nat), L + 6 - t ≤ n → t ≤ 10000 → ∀ (x : Bool) (C M : tI) (J : tJ) (H : Heap) (locs : List Loc) (ls : Array Slot), Rl x C M J → lw_I D cid adr s x C Jc M J H locs → lv_has ls 4 [(3, .int (nI t)), (2, .ref (lw_ad adr (s.heap.size + 289) 0)), (1, .ref (lw_ad adr s.heap.size 0)), (0, .ref b)] → W p l e room_1 s m #[Value.ref b] below meth c H locs 366 33116 (lw_Z below #[Value.ref b] s) (F0 m 18 ls []) := by
  intro n
  induction n with
  | zero =>
    intro t hn ht x C M J H locs ls h inv hl
    have hS := inv.2.2.2.2
    obtain ⟨hx, hb, hr, hml, hown, hts, hX, hbl, hlocks, hgv⟩ := C0
    refine lv_iload_n hx hb lw_d18 rfl (lv_at hl 0 rfl) ?_
    refine lv_aload_n hx hb lw_d19 rfl (lv_at hl 3 rfl) ?_
    refine va_slen hx hb hX hbl (Nat.not_le.mpr hbl) hS lw_d20 ?_
    refine lv_bipush (v := 6) hx hb lw_d21 rfl ?_
    refine lv_isub hx hb lw_d23 ?_
    refine lv_icmp_gt (tgt := 1365) hx hb lw_d24 (by decide) (fun _ => ?_) (fun z => ?_)
    · refine lv_iconst (v := 1) hx hb lw_d1365 rfl ?_
      exact va_forget (fun q hq => hS.2.2 q hq) (W.widen (by omega) (by omega) (lw_ret hx hb hr hlocks lw_d1366))
    · have := lt_sub6 hL (by omega) z
      omega
  | succ n ih =>
    intro t hn ht x C M J H locs ls h inv hl
    have hS := inv.2.2.2.2
    have C1 := C0
    obtain ⟨hx, hb, hr, hml, hown, hts, hX, hbl, hlocks, hgv⟩ := C0
    refine lv_iload_n hx hb lw_d18 rfl (lv_at hl 0 rfl) ?_
    refine lv_aload_n hx hb lw_d19 rfl (lv_at hl 3 rfl) ?_
    refine va_slen hx hb hX hbl (Nat.not_le.mpr hbl) hS lw_d20 ?_
    refine lv_bipush (v := 6) hx hb lw_d21 rfl ?_
    refine lv_isub hx hb lw_d23 ?_
    refine lv_icmp_gt (tgt := 1365) hx hb lw_d24 (by decide) (fun _ => ?_) (fun z => ?_)
    · refine lv_iconst (v := 1) hx hb lw_d1365 rfl ?_
      exact va_forget (fun q hq => hS.2.2 q hq) (W.widen (by omega) (by omega) (lw_ret hx hb hr hlocks lw_d1366))
    · have htL := lt_sub6 hL (by omega) z
      refine lv_aload_n hx hb lw_d27 rfl (lv_at hl 3 rfl) ?_
      refine lv_iload_n hx hb lw_d28 rfl (lv_at hl 0 rfl) ?_
      refine va_sld hx hb hX hbl (Nat.not_le.mpr hbl) hS (show am_in (nI t) L from nI_in (by omega) (by omega)) lw_d29 ?_
      refine lv_bipush (v := 63) hx hb lw_d30 rfl ?_
      refine lv_iand hx hb lw_d32 ?_
      obtain ⟨k, hk, ek⟩ := and63 (xs (nI t).toNatClampNeg)
      rw [ek]
      have kk : ∀ (x' : Bool) (C' M' : tI) (J' : tJ) (H' : Heap) (locs' : List Loc), Rl x' C' M' J' → lw_I D cid adr s x' C' Jc M' J' H' locs' → W p l e room_1 s m #[Value.ref b] below meth c H' locs' 366 33116 (lw_Z below #[Value.ref b] s) (F0 m 1359 ls []) := by
        intro x' C' M' J' H' locs' h' inv'
        refine lv_iinc (k := 0) (v := nI (t + 6)) (lv' := [(3, .int (nI (t + 6))), (2, .ref (lw_ad adr (s.heap.size + 289) 0)), (1, .ref (lw_ad adr s.heap.size 0)), (0, .ref b)]) hx hb lw_d1359 hl rfl (nI_add t 6) (by decide) rfl (fun ls' hl' => ?_)
        refine lv_goto (tgt := 18) hx hb lw_d1362 (by decide) ?_
        exact ih (t + 6) (by omega) (by omega) x' C' M' J' H' locs' ls' h' inv' hl'
      rcases Nat.lt_or_ge k 43 with z43 | z43
      · exact lw_sw C1 hL hK hRO hl.1 (lv_at hl 3 rfl) (lv_at hl 2 rfl) (lv_at hl 1 rfl) (lv_at hl 0 rfl) (by omega) (by omega) htL h inv kk k z43
      · refine lv_tableOut (tgt := 1359) hx hb lw_d33 (Or.inr ?_) (by decide) (kk x C M J H locs h inv)
        have e2 : (nI k).toInt = (k : Int) := by
          have := nI_subT (a := k) (b := 0) (by omega) (by omega)
          rw [show nI k - nI 0 = nI k from by rw [nI_sub (by omega) (Nat.zero_le _)]; rfl] at this
          rw [this]; omega
        rw [e2]; omega
theorem lw_one {M : am_M} {ad : Nat → Nat} {A : Nat → Prop} (h : M.2.2.2.2.1 = 1) (hA : A (ad 0)) : va_D A (am_ws cid ad M) := by
  have key : ∀ (i : Nat) (q : Nat × va_E), (am_ws cid ad M)[i]? = some q → i = 0 ∧ q.1 = ad 0 := by
    intro i q hq
    have hi : i < M.2.2.2.2.1 := by
      have := (List.getElem?_eq_some_iff.mp hq).1
      unfold am_ws at this
      rwa [List.length_map, List.length_range] at this
    rw [am_ws_at hi] at hq
    cases hq
    obtain rfl : i = 0 := by omega
    exact ⟨rfl, rfl⟩
  exact ⟨fun i j p q hi hj _ => by rw [(key i p hi).1, (key j q hj).1], fun k q hq => by rw [(key k q hq).2]; exact hA⟩
theorem lw_oneP {M : am_M} {ad : Nat → Nat} {H : Heap} (h : M.2.2.2.2.1 = 1) (hA : va_at D vwCl (ad 0, am_wE cid ad M 0) H) : va_P D vwCl (am_ws cid ad M) H := by
  intro i q hq
  have hi : i < M.2.2.2.2.1 := by
    have := (List.getElem?_eq_some_iff.mp hq).1
    unfold am_ws at this
    rwa [List.length_map, List.length_range] at this
  rw [am_ws_at hi] at hq
  cases hq
  obtain rfl : i = 0 := by omega
  exact hA
theorem lw_ok0 (a : Nat) (ha : a < 13) : am_okS (lx_0 a (am_nf a)) := fun k hk => by
  obtain rfl : k = 0 := by have : k < 1 := hk; omega
  exact Or.inl ⟨ha, rfl⟩
theorem lw_w0 : Cond.classLink R_law 7 (am_cn 11) ∈ tables_1 ∧ Cond.classLink R_law 10 (am_cn 12) ∈ tables_1 ∧ Cond.methodLink R_law 9 (am_y 108) ∈ tables_1 ∧ Cond.methodLink R_law 12 (am_y 156) ∈ tables_1 := by decide +kernel
theorem lw_a0 : (108 < 293 ∧ am_sk 108 = 1 ∧ am_np 108 = 0 ∧ am_rt 108 = none) ∧ (156 < 293 ∧ am_sk 156 = 1 ∧ am_np 156 = 0 ∧ am_rt 156 = none) := by decide +kernel
theorem lw_nfs : am_nf 11 = 10 ∧ am_nf 12 = 103 := by decide
set_option maxRecDepth 10000 in
theorem whole_start {p : Program} {e : Env} {s : State} {m : MethodId} {below : List Frame} {meth : Method} {c : Code} (l : Launch) {b L : Nat} {xs : Nat → Int32} (hL : L ≤ 3072) (C0 : lw_At p s m meth c b L xs) : W p l e room_1 s m #[Value.ref b] below meth c s.heap [] 0 0 (lw_Z below #[Value.ref b] s) (entryFrame m ([Value.ref b] : List Value).toArray 4) := by
  obtain ⟨adr, hRO⟩ := ro_start C0
  obtain ⟨D, cid, hK⟩ := kn_start C0
  have C1 := C0
  obtain ⟨hx, hb, hr, hml, hown, hts, hX, hbl, hlocks, hgv⟩ := C0
  have ad1 : ∀ k, 1000000 ≤ k → lw_ad adr s.heap.size k = adr k := fun k hk => if_neg (by omega)
  have ad2 : ∀ k, 1000000 ≤ k → lw_ad adr (s.heap.size + 289) k = adr k := fun k hk => if_neg (by omega)
  have hl := lv_entry ([.ref b]) (n := 4) (Nat.le_of_ble_eq_true rfl)
  rw [lg_entry_eq]
  generalize (lg_sl ([.ref b]) ++ List.replicate (4 - (lg_sl ([.ref b])).length) Slot.unset).toArray = ls at hl ⊢
  have hl : lv_has ls 4 [(0, .ref b)] := hl
  have e11 := lw_nfs.1
  have e12 := lw_nfs.2
  refine lw_new (cid := cid) C1 hK va_S.rf lw_d0 (a := 11) (by omega) lw_w0.1 (by omega) (by rw [e11]; omega) (fun H1 a1 z1 o1 hS1 => ?_)
  rw [e11] at a1 ⊢
  refine lv_dup hx hb lw_d3 rfl ?_
  have d0 : lw_ad adr s.heap.size 0 = s.heap.size := by unfold lw_ad; rw [if_pos (by omega)]; rfl
  have hP1 : va_P D vwCl (am_ws cid (lw_ad adr s.heap.size) (lx_0 11 10)) H1 := lw_oneP rfl (by rw [d0]; exact a1 _)
  have hD1 : va_D (lw_A0 s) (am_ws cid (lw_ad adr s.heap.size) (lx_0 11 10)) := lw_one rfl (by rw [d0]; exact Nat.le_refl _)
  have nC := stC_n
  have nM := stM_n
  have z0 : s.heap.size ≤ H1.size := hS1.1
  have g1 : W p l e room_1 s m #[Value.ref b] below meth c H1 [] (0 + 1) (0 + 10) (lw_Z below #[Value.ref b] s) (F0 m 4 ls [.ref (lw_ad adr s.heap.size 0), .ref s.heap.size]) := by
    refine lw_init (M' := stC) (q := [.ref s.heap.size]) C1 hK (hRO.cg ad1) hP1 hD1 hS1 (lw_ok0 11 (by omega)) lw_d4 (a := 108) lw_a0.1.1 lw_a0.1.2.1 lw_w0.2.2.1 lw_a0.1.2.2.1 (Nat.le_of_ble_eq_true rfl) stC_run (fun k h1 h2 => ?_) lw_a0.1.2.2.2 hl.1 (by rw [nC.1]; show 0 + 1 + (289 - 1) ≤ 600000; omega) (by rw [nC.2]; show 0 + 10 + (11479 - 10) ≤ 7302249; omega) (fun H2 locs2 hP2 hD2 hS2 hok2 hsz2 hk2 => ?_)
    · have h1 : 1 ≤ k := h1
      rw [nC.1] at h2
      show lw_ad adr s.heap.size k = H1.size + (k - 1)
      unfold lw_ad
      rw [if_pos (by omega), z1]; omega
    · rw [nC.1] at hsz2 ⊢
      rw [nC.2]
      have hsz2 : H1.size + (289 - 1) ≤ H2.size := hsz2
      refine W.widen (k := 289) (n := 11479) (by show 0 + 1 + (289 - 1) ≤ 289; omega) (by show 0 + 10 + (11479 - 10) ≤ 11479; omega) ?_
      refine am_eqW (fun hz => ?_)
      have eH2 : H2.size = s.heap.size + 289 := by omega
      have hP2' := stC_agr.P hP2
      have hD2' := stC_agr.D hD2
      refine lv_astore_n (lv' := [(1, .ref (lw_ad adr s.heap.size 0)), (0, .ref b)]) hx hb lw_d7 rfl hl (by decide) (by rw [d0]; rfl) (fun ls2 hl2 => ?_)
      refine lw_new (cid := cid) C1 hK hS2 lw_d8 (a := 12) (by omega) lw_w0.2.1 (by omega) (by rw [e12]; omega) (fun H3 a3 z3 o3 hS3 => ?_)
      rw [e12] at a3 ⊢
      refine lv_dup hx hb lw_d11 rfl ?_
      have d2 : lw_ad adr (s.heap.size + 289) 0 = H2.size := by unfold lw_ad; rw [if_pos (by omega), eH2]
      have hP3 : va_P D vwCl (am_ws cid (lw_ad adr (s.heap.size + 289)) (lx_0 12 103)) H3 := lw_oneP rfl (by rw [d2]; exact a3 _)
      have hD3 : va_D (lw_A0 s) (am_ws cid (lw_ad adr (s.heap.size + 289)) (lx_0 12 103)) := lw_one rfl (by rw [d2]; show s.heap.size ≤ H2.size; omega)
      have hP2'' : va_P D vwCl (am_ws cid (lw_ad adr s.heap.size) (stC.1, stC.2.1, tc_R false, tc_S, 289, 11479)) H3 := fun k q hq => (hP2' k q hq).kept (o3 _ (hP2' k q hq).lt)
      have g3 : W p l e room_1 s m #[Value.ref b] below meth c H3 locs2 (289 + 1) (11479 + 103) (lw_Z below #[Value.ref b] s) (F0 m 12 ls2 [.ref (lw_ad adr (s.heap.size + 289) 0), .ref H2.size]) := by
        refine lw_init (M' := stM) (q := [.ref H2.size]) C1 hK (hRO.cg ad2) hP3 hD3 hS3 (lw_ok0 12 (by omega)) lw_d12 (a := 156) lw_a0.2.1 lw_a0.2.2.1 lw_w0.2.2.2 lw_a0.2.2.2.1 (Nat.le_of_ble_eq_true rfl) stM_run (fun k h1 h2 => ?_) lw_a0.2.2.2.2 hl2.1 (by rw [nM.1]; show 289 + 1 + (77 - 1) ≤ 600000; omega) (by rw [nM.2]; show 11479 + 103 + (21637 - 103) ≤ 7302249; omega) (fun H4 locs4 hP4 hD4 hS4 hok4 hsz4 hk4 => ?_)
        · have h1 : 1 ≤ k := h1
          rw [nM.1] at h2
          show lw_ad adr (s.heap.size + 289) k = H3.size + (k - 1)
          unfold lw_ad
          rw [if_pos (by omega), z3, eH2]; omega
        · rw [nM.1, nM.2]
          refine W.widen (k := 366) (n := 33116) (by show 289 + 1 + (77 - 1) ≤ 366; omega) (by show 11479 + 103 + (21637 - 103) ≤ 33116; omega) ?_
          have hP4' := stM_agr.P hP4
          have hD4' := stM_agr.D hD4
          have hPc := lw_oth (M1 := lx_0 12 103) (M2 := (stC.1, stC.2.1, tc_R false, tc_S, 289, 11479)) (ad1 := lw_ad adr (s.heap.size + 289)) (ad2 := lw_ad adr s.heap.size) (fun i j hi hj => by
            have hi : i < 1 := hi
            have hj : j < 289 := hj
            unfold lw_ad
            rw [if_pos (by omega), if_pos (by omega)]; omega) hk4 hP2''
          refine lv_astore_n (lv' := [(2, .ref (lw_ad adr (s.heap.size + 289) 0)), (1, .ref (lw_ad adr s.heap.size 0)), (0, .ref b)]) hx hb lw_d15 rfl hl2 (by decide) (by rw [d2]; rfl) (fun ls3 hl3 => ?_)
          refine lv_iconst (v := nI 0) hx hb lw_d16 rfl ?_
          refine lv_istore_n (lv' := [(3, .int (nI 0)), (2, .ref (lw_ad adr (s.heap.size + 289) 0)), (1, .ref (lw_ad adr s.heap.size 0)), (0, .ref b)]) hx hb lw_d17 rfl hl3 (by decide) rfl (fun ls4 hl4 => ?_)
          exact lw_loop C1 hL hK hRO stC.2.1 (L + 6) 0 (by omega) (by omega) false stC.1 stM.1 stM.2.1 H4 locs4 ls4 (st_Rl stM.2.1) ⟨hPc, hD2', hP4', hD4', hS4⟩ hl4
      rw [d2] at g3
      exact g3
  rw [d0] at g1
  exact g1
end LWS
