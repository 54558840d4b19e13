/-! constructors' calls, arraycopy, the constant row, new cells -/
section SMI
variable {p : Program} {l : Launch} {e : Env} {R : Room} {s : State} {m : MethodId} {args : Array Value} {below : List Frame} {meth : Method} {c : Code} {D : va_G} {cid : Nat → ClassId} {ad : Nat → Nat} {A : Nat → Prop} {Q : State → Prop}
variable {mi pc : Nat} {g : Nat → List Value → am_M → am_O} {f : Nat → List Value → List Value → am_M → am_O} {L st : List Value} {M M' M0 M1 : am_M} {r r0 : Option Value} {H : Heap} {locs : List Loc} {ls : Array Slot} {k d : Nat} {q : List Value}
theorem am_s_callI (C : am_Cx p R s m args meth c mi) (hK : va_K D vwCl (am_tys cid) s) (hRO : am_RO ad A s s.heap) (hA : ∀ q, s.heap.size ≤ q → A q) (hal : ∀ k, M0.2.2.2.2.1 ≤ k → k < M1.2.2.2.2.1 → ad k = s.heap.size + (k - M0.2.2.2.2.1)) (hR : am_Rm R d M0 M1) (kf : am_kf p l e R s m args below meth c D cid ad A Q mi f M0 M1 r) (hI : am_I D cid ad A s mi M0 M H locs ls L)
    {idx a : Nat} {as : List Value} (hd : decode (am_c mi) pc = .ok (.invokespecial idx, 3)) (ha : a < 293) (hsk : am_sk a = 1) (hrt : am_rt a = none) (hl : Cond.methodLink (am_cn (am_own mi)) idx (am_y a) ∈ am_W ∨ va_Nw (.methodLinkNest (am_cn (am_own mi)) idx (am_y a) "TyreWorks") s) (hn : as.length = am_np a) (hc : am_cats q ≤ 8) (hm : am_Met l D cid ad d a (.ref k :: as) M r0 M') (hg : am_gw M M') (hg1 : am_gw M' M1) (h : f (pc + 3) L (r0.toList ++ q) M' = some (r, M1)) :
    W p l e R s m args below meth c H locs (M.2.2.2.2.1 - M0.2.2.2.2.1) (M.2.2.2.2.2 - M0.2.2.2.2.2) Q (F0 m pc ls ((as.map (am_tv ad)).reverse ++ .ref (ad k) :: q.map (am_tv ad))) := by
  refine am_eqW (fun hz => ?_)
  obtain ⟨hx, hb, -, hml, hown, hts, -⟩ := C
  have hy := am_yc2 (am_own a) (am_yc5 a ha).1
  have hini : (Cond.initialized (am_y a).cls).before args s = true := by
    rw [am_yc1 a ha]
    exact am_word hts (am_NI (am_own a) (am_yc5 a ha).1) rfl
  have hin : (Cond.instanceMethod (am_y a)).before args s = true := by
    have h1 := am_iw a ha
    rw [if_neg (by rw [hsk]; decide)] at h1
    exact am_word hts h1 rfl
  refine am_after (av := (Value.ref (ad k) :: as.map (am_tv ad)).toArray) kf hI hA hg ?_ h
  have hpr : PreS s H (va_Pc ((Value.ref k :: as).map (am_tv ad)) (am_Pre D cid ad H.size M M')) (.ref (ad k) :: as.map (am_tv ad)) := ⟨am_blind D cid ad H.size _ M M', fun U hU hW => ⟨rfl, am_pre hK hRO hA hal hI hz hg1 U hU hW⟩⟩
  have hw : am_wsm a = Cond.code (am_y a) (am_c a) (am_ml a) none :: am_W := by rw [← hrt]; rfl
  rcases hl with hl | hl
  · exact va_runI (As := as.map (am_tv ad)) (rest := q.map (am_tv ad)) ⟨hx, hb, hml, hown, hts⟩ (hm H.size)
      (cwI (am_np a) hts (am_good a ha) hw rfl rfl hini (hts _ hl) hin (am_yc4 a ha hsk) ⟨by rw [am_yc1 a ha]; exact hy.1, by rw [am_yc1 a ha]; exact hy.2, am_yc3 a ha⟩ (am_rmle hR ha M M'))
      hpr rfl (by rw [List.length_map]; exact hn) hI.2.2.2.1.1 rfl (lv_room (by rw [am_cats_tv]; exact hc)) hd (am_fit hR hI.2.2.2.2.2.2 hg hg1)
  · exact va_runIN (As := as.map (am_tv ad)) (rest := q.map (am_tv ad)) ⟨hx, hb, hml, hown, hts⟩ (hm H.size)
      ⟨va_cnB (am_np a) hts (am_good a ha) hw rfl rfl hl hini ⟨by rw [am_yc1 a ha]; exact hy.1, by rw [am_yc1 a ha]; exact hy.2, am_yc3 a ha⟩ (am_rmle hR ha M M'), am_yc4 a ha hsk, hin⟩
      hpr rfl (by rw [List.length_map]; exact hn) hI.2.2.2.1.1 rfl (lv_room (by rw [am_cats_tv]; exact hc)) hd (am_fit hR hI.2.2.2.2.2.2 hg hg1)
theorem am_s_obj (C : am_Cx p R s m args meth c mi) (kf : am_kf p l e R s m args below meth c D cid ad A Q mi f M0 M1 r) (hI : am_I D cid ad A s mi M0 M H locs ls L) {idx : Nat} (hd : decode (am_c mi) pc = .ok (.invokespecial idx, 3)) (hl : (am_OIt.any fun q => Nat.beq q.1 (am_own mi) && Nat.beq q.2.1 idx) = true) (hc : am_cats q ≤ 8) (h : f (pc + 3) L q M = some (r, M1)) :
    W p l e R s m args below meth c H locs (M.2.2.2.2.1 - M0.2.2.2.2.1) (M.2.2.2.2.2 - M0.2.2.2.2.2) Q (F0 m pc ls (.ref (ad k) :: q.map (am_tv ad))) := by
  obtain ⟨hx, hb, -, hml, hown, hts, -, -, -, hfr, hlo⟩ := C
  obtain ⟨x, hxm, h1⟩ := List.any_eq_true.mp hl
  simp only [Bool.and_eq_true] at h1
  have hw := am_OI x hxm
  rw [Nat.eq_of_beq_eq_true h1.1, Nat.eq_of_beq_eq_true h1.2] at hw
  refine W.objInit hx hb hown (am_word hts hw rfl) (am_word hts am_wObj rfl) (am_word hts am_wObjC rfl) rfl (by rw [hml]; exact hI.2.2.2.1.1) rfl hd (by omega) ?_ (kf _ _ _ _ h _ _ _ hI)
  rw [am_cats_tv]
  show 2 * 0 + am_cats q + 12 ≤ R.locals
  omega
theorem am_s_ro (C : am_Cx p R s m args meth c mi) (hRO : am_RO ad A s s.heap) (kf : am_kf p l e R s m args below meth c D cid ad A Q mi f M0 M1 r) (hI : am_I D cid ad A s mi M0 M H locs ls L) {i : Int32} (hd : decode (am_c mi) pc = .ok (.iaload, 1)) (hi : am_in i 9) (h : f (pc + 1) L (.int (am_ro i.toNatClampNeg) :: q) M = some (r, M1)) :
    W p l e R s m args below meth c H locs (M.2.2.2.2.1 - M0.2.2.2.2.1) (M.2.2.2.2.2 - M0.2.2.2.2.2) Q (F0 m pc ls (.int i :: .ref (ad 2000000) :: q.map (am_tv ad))) :=
  va_ti C.1 C.2.1 hRO.1 hI.2.2.1 hi rfl hd (kf _ _ _ _ h _ _ _ hI)
theorem am_s_gets (C : am_Cx p R s m args meth c mi) (hRO : am_RO ad A s s.heap) (kf : am_kf p l e R s m args below meth c D cid ad A Q mi f M0 M1 r) (hI : am_I D cid ad A s mi M0 M H locs ls L) {idx : Nat} (hd : decode (am_c mi) pc = .ok (.getstatic idx, 3)) (ho : am_own mi = 6) (hi : idx = 88) (h : f (pc + 3) L (.ref 2000000 :: q) M = some (r, M1)) :
    W p l e R s m args below meth c H locs (M.2.2.2.2.1 - M0.2.2.2.2.1) (M.2.2.2.2.2 - M0.2.2.2.2.2) Q (F0 m pc ls (q.map (am_tv ad))) := by
  obtain ⟨hx, hb, -, -, hown, hts, -⟩ := C
  subst hi
  rw [ho] at hown
  exact va_gets hx hb hRO.2.1 hI.2.2.1 hown (am_word hts am_wMT rfl) (fun _ h9 => h9) hd (kf _ _ _ _ h _ _ _ hI)
theorem am_s_ldcs (C : am_Cx p R s m args meth c mi) (hRO : am_RO ad A s s.heap) (kf : am_kf p l e R s m args below meth c D cid ad A Q mi f M0 M1 r) (hI : am_I D cid ad A s mi M0 M H locs ls L) {idx a : Nat} (hd : decode (am_c mi) pc = .ok (.ldc idx, 2)) (ho : am_own mi = 9) (hi : (idx = 29 ∧ a = 0) ∨ (idx = 107 ∧ a = 1)) (h : f (pc + 2) L (.ref (1000000 + a) :: q) M = some (r, M1)) :
    W p l e R s m args below meth c H locs (M.2.2.2.2.1 - M0.2.2.2.2.1) (M.2.2.2.2.2 - M0.2.2.2.2.2) Q (F0 m pc ls (q.map (am_tv ad))) := by
  obtain ⟨hx, hb, -, -, hown, hts, -⟩ := C
  rw [ho] at hown
  rcases hi with ⟨rfl, rfl⟩ | ⟨rfl, rfl⟩
  · exact va_ldcS hx hb hown hRO.2.2.1 hd (kf _ _ _ _ h _ _ _ hI)
  · exact va_ldcS hx hb hown hRO.2.2.2.1 hd (kf _ _ _ _ h _ _ _ hI)
theorem am_s_ldc2 (C : am_Cx p R s m args meth c mi) (kf : am_kf p l e R s m args below meth c D cid ad A Q mi f M0 M1 r) (hI : am_I D cid ad A s mi M0 M H locs ls L) {idx a : Nat} (hd : decode (am_c mi) pc = .ok (.ldc2_w idx, 3)) (hl : (am_KLt.any fun q => Nat.beq q.1 (am_own mi) && Nat.beq q.2.1 idx && Nat.beq q.2.2.1 a) = true) (h : f (pc + 3) L (.long (am_K a) :: q) M = some (r, M1)) :
    W p l e R s m args below meth c H locs (M.2.2.2.2.1 - M0.2.2.2.2.1) (M.2.2.2.2.2 - M0.2.2.2.2.2) Q (F0 m pc ls (q.map (am_tv ad))) := by
  obtain ⟨hx, hb, -, -, hown, hts, -⟩ := C
  obtain ⟨x, hxm, h1⟩ := List.any_eq_true.mp hl
  simp only [Bool.and_eq_true] at h1
  have hw := am_KL x hxm
  rw [Nat.eq_of_beq_eq_true h1.1.1, Nat.eq_of_beq_eq_true h1.1.2, Nat.eq_of_beq_eq_true h1.2] at hw
  exact lv_ldc2 hx hb hown (am_word hts hw rfl) hd (kf _ _ _ _ h _ _ _ hI)
theorem am_s_copy (C : am_Cx p R s m args meth c mi) (hK : va_K D vwCl (am_tys cid) s) (kf : am_kf p l e R s m args below meth c D cid ad A Q mi f M0 M1 r) (hI : am_I D cid ad A s mi M0 M H locs ls L) {idx a b : Nat} {sp dp n : Int32} (hd : decode (am_c mi) pc = .ok (.invokestatic idx, 3)) (hl : (am_ACt.any fun q => Nat.beq q.1 (am_own mi) && Nat.beq q.2.1 idx) = true) (ha : am_at M a 20) (hbb : am_at M b 20) (h1 : ¬ sp < 0) (h2 : ¬ dp < 0) (h3 : ¬ n < 0) (h4 : sp.toNatClampNeg + n.toNatClampNeg ≤ (M.2.2.2.1 a).2) (h5 : dp.toNatClampNeg + n.toNatClampNeg ≤ (M.2.2.2.1 b).2) (hc : am_cats q ≤ 8)
    (h : f (pc + 3) L q (am_row M.1 b (va_cpy (M.1 a) (M.1 b) sp.toNatClampNeg dp.toNatClampNeg n.toNatClampNeg), M.2) = some (r, M1)) :
    W p l e R s m args below meth c H locs (M.2.2.2.2.1 - M0.2.2.2.2.1) (M.2.2.2.2.2 - M0.2.2.2.2.2) Q (F0 m pc ls (.int n :: .int dp :: .ref (ad b) :: .int sp :: .ref (ad a) :: q.map (am_tv ad))) := by
  obtain ⟨hx, hb, -, hml, hown, hts, -, -, -, hfr, hlo⟩ := C
  obtain ⟨x, hxm, hq⟩ := List.any_eq_true.mp hl
  simp only [Bool.and_eq_true] at hq
  have hw := am_AC x hxm
  rw [Nat.eq_of_beq_eq_true hq.1, Nat.eq_of_beq_eq_true hq.2] at hw
  have he0 := am_ws_at (cid := cid) (ad := ad) ha.2
  rw [am_wE_i ha.1] at he0
  have he1 := am_ws_at (cid := cid) (ad := ad) hbb.2
  rw [am_wE_i hbb.1] at he1
  have hnw := am_nfw
  refine va_copyi hx hb (by rw [hml]; exact hI.2.2.2.1.1.symm) hown (am_word hts hw rfl) (am_word hts am_wAcN rfl) (am_word hts am_wAcS rfl) (am_word hts am_wSys rfl) hK hI.1 hI.2.1 hI.at a b 0 0 he0 he1 rfl rfl rfl h1 h2 h3 h4 h5 (fun _ _ => rfl) (by omega) (by rw [am_cats_tv]; omega) hd (fun H1 locs1 hP1 hD1 hS1 => ?_)
  have hws : (am_ws cid ad M).set b (ad b, .inl (cid 20, (M.2.2.2.1 b).2, .inl (va_cpy (M.1 a) (M.1 b) sp.toNatClampNeg dp.toNatClampNeg n.toNatClampNeg))) = am_ws cid ad (am_row M.1 b (va_cpy (M.1 a) (M.1 b) sp.toNatClampNeg dp.toNatClampNeg n.toNatClampNeg), M.2) := by
    refine am_ws_set rfl ((am_wE_i (M := (am_row M.1 b (va_cpy (M.1 a) (M.1 b) sp.toNatClampNeg dp.toNatClampNeg n.toNatClampNeg), M.2)) hbb.1).trans ?_) (fun j hj => am_wE_congr (fun i => by show am_row _ _ _ _ _ = _; unfold am_row; rw [if_neg hj]) (fun _ => rfl) (fun _ => rfl) rfl)
    have : am_row M.1 b (va_cpy (M.1 a) (M.1 b) sp.toNatClampNeg dp.toNatClampNeg n.toNatClampNeg) b = va_cpy (M.1 a) (M.1 b) sp.toNatClampNeg dp.toNatClampNeg n.toNatClampNeg := by funext i; unfold am_row; rw [if_pos rfl]
    show Sum.inl (cid 20, (M.2.2.2.1 b).2, Sum.inl (am_row M.1 b (va_cpy (M.1 a) (M.1 b) sp.toNatClampNeg dp.toNatClampNeg n.toNatClampNeg) b)) = _
    rw [this]
  rw [hws] at hP1 hD1
  exact kf _ _ _ _ h _ _ _ (hI.put rfl hP1 hD1 hS1)
/-- a new cell -/
theorem am_I.new (hI : am_I D cid ad A s mi M0 M H locs ls L) (hA : ∀ q, s.heap.size ≤ q → A q) {kd n : Nat} {H' : Heap} (hkd : (kd < 13 ∧ n = am_nf kd) ∨ (20 ≤ kd ∧ kd ≤ 27)) (hz : H'.size = H.size + 1) (ho : ∀ q, q < H.size → H'[q]? = H[q]?) (had : ad M.2.2.2.2.1 = H.size) (hat : va_at D vwCl (H.size, am_wE cid ad (am_al M kd n) M.2.2.2.2.1) H') : am_I D cid ad A s mi M0 (am_al M kd n) H' locs ls L := by
  obtain ⟨hP, hD, hS, hl, hok, hsz, hgw⟩ := hI
  have hws : am_ws cid ad (am_al M kd n) = am_ws cid ad M ++ [(H.size, am_wE cid ad (am_al M kd n) M.2.2.2.2.1)] := by
    show (List.range (M.2.2.2.2.1 + 1)).map _ = _
    rw [List.range_succ, List.map_append]
    congr 1
    · refine List.map_congr_left (fun i hi => ?_)
      have hi2 := List.mem_range.mp hi
      have hne : i ≠ M.2.2.2.2.1 := by omega
      rw [am_wE_congr (M := M) (M' := am_al M kd n) (fun j => by simp only [am_al, am_row, if_neg hne]) (fun j => by simp only [am_al, am_row, if_neg hne]) (fun j => by simp only [am_al, am_row, if_neg hne]) (by simp only [am_al, if_neg hne])]
    · show [(ad M.2.2.2.2.1, _)] = _
      rw [had]
  have hP' : va_P D vwCl (am_ws cid ad M) H' := hP.kept (fun k x hx => ho x.1 ((hP k x hx).lt))
  refine ⟨?_, ?_, ⟨by rw [hz]; exact Nat.le_trans hS.1 (Nat.le_succ _), fun x h1 h2 => (ho x (Nat.lt_of_lt_of_le h1 hS.1)).trans (hS.2.1 x h1 h2), hS.2.2⟩, hl, ?_, ?_, ⟨Nat.le_trans hgw.1 (Nat.le_succ _), Nat.le_trans hgw.2 (Nat.le_add_right _ _)⟩⟩
  · rw [hws]
    refine hP'.app (fun k x hx => ?_)
    have hk0 : k = 0 := by have := (List.getElem?_eq_some_iff.mp hx).1; simp at this; omega
    subst hk0
    cases hx
    exact hat
  · rw [hws]
    exact hD.push hP rfl (hA _ hS.1)
  · intro k hk
    show ((if k = M.2.2.2.2.1 then (kd, n) else M.2.2.2.1 k).1 < 13 ∧ (if k = M.2.2.2.2.1 then (kd, n) else M.2.2.2.1 k).2 = am_nf (if k = M.2.2.2.2.1 then (kd, n) else M.2.2.2.1 k).1) ∨ _
    by_cases hk2 : k = M.2.2.2.2.1
    · rw [if_pos hk2]
      have e : (am_al M kd n).2.2.2.1 k = (kd, n) := by show (if _ then _ else _) = _; rw [if_pos hk2]
      rw [e]
      exact hkd
    · rw [if_neg hk2]
      have e : (am_al M kd n).2.2.2.1 k = M.2.2.2.1 k := by show (if _ then _ else _) = _; rw [if_neg hk2]
      rw [e]
      exact hok k (by have : k < M.2.2.2.2.1 + 1 := hk; omega)
  · show s.heap.size + (M.2.2.2.2.1 + 1 - M0.2.2.2.2.1) ≤ H'.size
    have := hgw.1
    omega
end SMI
