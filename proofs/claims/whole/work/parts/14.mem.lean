/-! FIELDS AND ARRAYS are sound. -/
section SMM
variable {p : Program} {l : Launch} {e : Env} {R : Room} {s : State} {m : MethodId} {args : Array Value} {below : List Frame} {meth : Method} {c : Code} {D : va_G} {cid : Nat → ClassId} {ad : Nat → Nat} {A : Nat → Prop} {Q : State → Prop}
variable {mi pc : Nat} {f : Nat → List Value → List Value → am_M → am_O} {L st : List Value} {M M0 M1 : am_M} {r : Option Value} {H : Heap} {locs : List Loc} {ls : Array Slot} {k i0 : Nat} {q : List Value}
theorem am_FLin {mi idx a b : Nat} (h : (am_FLt.any fun q => Nat.beq q.1 (am_own mi) && Nat.beq q.2.1 idx && Nat.beq q.2.2.1 a && Nat.beq q.2.2.2.1 b) = true) {args : Array Value} {s : State} (hts : ∀ w ∈ am_W, w.before args s = true) : (Cond.fieldLink (am_cn (am_own mi)) idx (am_ct a b).1 (am_ct a b).2.1 (am_ct a b).2.2.1).before args s = true := by
  obtain ⟨x, hx, h⟩ := List.any_eq_true.mp h
  simp only [Bool.and_eq_true] at h
  obtain ⟨⟨⟨h1, h2⟩, h3⟩, h4⟩ := h
  have := am_FL x hx
  rw [Nat.eq_of_beq_eq_true h1, Nat.eq_of_beq_eq_true h2, Nat.eq_of_beq_eq_true h3, Nat.eq_of_beq_eq_true h4] at this
  exact am_word hts this rfl
theorem am_field (M : am_M) (ad : Nat → Nat) (k n ci j : Nat) (h : j < n) : ((List.range n).map fun j => am_tv ad (am_gf M k j (am_fk ci j)))[j]? = some (am_tv ad (am_gf M k j (am_fk ci j))) := by simp [h]
theorem am_s_get (C : am_Cx p R s m args meth c mi) (hK : va_K D vwCl (am_tys cid) s) (kf : am_kf p l e R s m args below meth c D cid ad A Q mi f M0 M1 r) (hI : am_I D cid ad A s mi M0 M H locs ls L) {idx ci j : Nat} (hd : decode (am_c mi) pc = .ok (.getfield idx, 3)) (hl : (am_FLt.any fun q => Nat.beq q.1 (am_own mi) && Nat.beq q.2.1 idx && Nat.beq q.2.2.1 ci && Nat.beq q.2.2.2.1 j) = true) (hci : ci < 13) (hj : j < am_nf ci) (ha : am_at M k ci) (h : f (pc + 3) L (am_gf M k j (am_fk ci j) :: q) M = some (r, M1)) :
    W p l e R s m args below meth c H locs (M.2.2.2.2.1 - M0.2.2.2.2.1) (M.2.2.2.2.2 - M0.2.2.2.2.2) Q (F0 m pc ls (.ref (ad k) :: q.map (am_tv ad))) := by
  obtain ⟨hx, hb, -, -, hown, hts, -⟩ := C
  have hlen := am_okS_len hI.2.2.2.2.1 ha hci
  have he := am_ws_at (cid := cid) (ad := ad) ha.2
  rw [am_wE_o ha.1 hci] at he
  exact va_get hx hb hts (am_uws ci hci) hown hK hI.1 k he (am_cl ci hci) j hj (am_FLin hl hts) (fun _ h9 => h9) (am_field M ad k _ ci j (by rw [hlen]; exact hj)) hd (kf _ _ _ _ h _ _ _ hI)
theorem am_s_put (C : am_Cx p R s m args meth c mi) (hK : va_K D vwCl (am_tys cid) s) (kf : am_kf p l e R s m args below meth c D cid ad A Q mi f M0 M1 r) (hI : am_I D cid ad A s mi M0 M H locs ls L) {idx ci j : Nat} {v : Value} {M' : am_M} (hd : decode (am_c mi) pc = .ok (.putfield idx, 3)) (hl : (am_FLt.any fun q => Nat.beq q.1 (am_own mi) && Nat.beq q.2.1 idx && Nat.beq q.2.2.1 ci && Nat.beq q.2.2.2.1 j) = true) (hci : ci < 13) (hj : j < am_nf ci) (ha : am_at M k ci) (hfin : (am_ct ci j).2.2.2 = false ∨ (am_sk mi = 1 ∧ am_own mi = ci))
    (hn : narrow (am_fty ci j) (am_tv ad v) = am_tv ad v) (hf : fits (am_fty ci j) (am_tv ad v) = true) (hM : M'.2.2.2 = M.2.2.2) (hgj : am_gf M' k j (am_fk ci j) = v) (hgo : ∀ i kd, i ≠ j → am_gf M' k i kd = am_gf M k i kd) (hgk : ∀ i, i ≠ k → am_wE cid ad M' i = am_wE cid ad M i) (h : f (pc + 3) L q M' = some (r, M1)) :
    W p l e R s m args below meth c H locs (M.2.2.2.2.1 - M0.2.2.2.2.1) (M.2.2.2.2.2 - M0.2.2.2.2.2) Q (F0 m pc ls (am_tv ad v :: .ref (ad k) :: q.map (am_tv ad))) := by
  obtain ⟨hx, hb, -, -, hown, hts, -, hname, hmi, -⟩ := C
  have hlen := am_okS_len hI.2.2.2.2.1 ha hci
  have he := am_ws_at (cid := cid) (ad := ad) ha.2
  rw [am_wE_o ha.1 hci] at he
  have ha' : (M'.2.2.2.1 k).1 = ci := by rw [hM]; exact ha.1
  have hset : ((List.range (M.2.2.2.1 k).2).map fun j => am_tv ad (am_gf M k j (am_fk ci j))).set j (am_tv ad v) = (List.range (M'.2.2.2.1 k).2).map fun j => am_tv ad (am_gf M' k j (am_fk ci j)) := by
    rw [hM]
    exact am_set_map (by rw [hgj]) (fun i hi => by rw [hgo i _ hi])
  have hws : (am_ws cid ad M).set k (ad k, .inr (ci, ((List.range (M.2.2.2.1 k).2).map fun j => am_tv ad (am_gf M k j (am_fk ci j))).set j (am_tv ad v))) = am_ws cid ad M' := am_ws_set (by rw [hM]) ((am_wE_o ha' hci).trans (by rw [hset])) hgk
  have hc2 : M'.2.2.2.2.1 - M0.2.2.2.2.1 = M.2.2.2.2.1 - M0.2.2.2.2.1 := by rw [hM]
  have hc3 : M'.2.2.2.2.2 - M0.2.2.2.2.2 = M.2.2.2.2.2 - M0.2.2.2.2.2 := by rw [hM]
  have kk : ∀ (H1 : Heap) (locs1 : List Loc), va_P D vwCl ((am_ws cid ad M).set k (ad k, .inr (ci, ((List.range (M.2.2.2.1 k).2).map fun j => am_tv ad (am_gf M k j (am_fk ci j))).set j (am_tv ad v)))) H1 → va_D A ((am_ws cid ad M).set k (ad k, .inr (ci, ((List.range (M.2.2.2.1 k).2).map fun j => am_tv ad (am_gf M k j (am_fk ci j))).set j (am_tv ad v)))) → va_S A H H1 locs1 → W p l e R s m args below meth c H1 locs1 (M.2.2.2.2.1 - M0.2.2.2.2.1) (M.2.2.2.2.2 - M0.2.2.2.2.2) Q (F0 m (pc + 3) ls (q.map (am_tv ad))) := by
    intro H1 locs1 hP1 hD1 hS1
    rw [hws] at hP1 hD1
    have := kf _ _ _ _ h _ _ _ (hI.put hM hP1 hD1 hS1)
    rwa [hc2, hc3] at this
  rcases hfin with hfin | hfin
  · exact va_put hx hb hts (am_uws ci hci) (am_fty ci) (am_tyok ci hci) (am_nmok ci hci) hown hK hI.1 hI.2.1 hI.at k he (am_cl ci hci) j hj (am_FLin hl hts) (fun _ h9 => h9) hfin (am_tyok ci hci j hj) hn hf (by simp [hlen, hj]) hd kk
  · cases hfb : (am_ct ci j).2.2.2 with
    | false => exact va_put hx hb hts (am_uws ci hci) (am_fty ci) (am_tyok ci hci) (am_nmok ci hci) hown hK hI.1 hI.2.1 hI.at k he (am_cl ci hci) j hj (am_FLin hl hts) (fun _ h9 => h9) hfb (am_tyok ci hci j hj) hn hf (by simp [hlen, hj]) hd kk
    | true => exact va_putF hx hb hts (am_uws ci hci) (am_fty ci) (am_tyok ci hci) (am_nmok ci hci) hown hK hI.1 hI.2.1 hI.at k he (am_cl ci hci) j hj (am_FLin hl hts) (fun _ h9 => h9) hfb (hname.trans (am_yc4 mi hmi hfin.1)) (by rw [hfin.2]; exact am_decl ci hci j hj) (am_tyok ci hci j hj) hn hf (by simp [hlen, hj]) hd kk
theorem am_s_iald (C : am_Cx p R s m args meth c mi) (hK : va_K D vwCl (am_tys cid) s) (kf : am_kf p l e R s m args below meth c D cid ad A Q mi f M0 M1 r) (hI : am_I D cid ad A s mi M0 M H locs ls L) {i : Int32} (hd : decode (am_c mi) pc = .ok (.iaload, 1)) (ha : am_at M k 20) (hi : am_in i (M.2.2.2.1 k).2) (h : f (pc + 1) L (.int (M.1 k i.toNatClampNeg) :: q) M = some (r, M1)) :
    W p l e R s m args below meth c H locs (M.2.2.2.2.1 - M0.2.2.2.2.1) (M.2.2.2.2.2 - M0.2.2.2.2.2) Q (F0 m pc ls (.int i :: .ref (ad k) :: q.map (am_tv ad))) := by
  have he := am_ws_at (cid := cid) (ad := ad) ha.2
  rw [am_wE_i ha.1] at he
  exact va_iald C.1 C.2.1 hK hI.1 k 0 he rfl hi hd (kf _ _ _ _ h _ _ _ hI)
theorem am_s_zald (C : am_Cx p R s m args meth c mi) (hK : va_K D vwCl (am_tys cid) s) (kf : am_kf p l e R s m args below meth c D cid ad A Q mi f M0 M1 r) (hI : am_I D cid ad A s mi M0 M H locs ls L) {i : Int32} (hd : decode (am_c mi) pc = .ok (.baload, 1)) (ha : am_at M k 22) (hi : am_in i (M.2.2.2.1 k).2) (h : f (pc + 1) L (.int (M.1 k i.toNatClampNeg) :: q) M = some (r, M1)) :
    W p l e R s m args below meth c H locs (M.2.2.2.2.1 - M0.2.2.2.2.1) (M.2.2.2.2.2 - M0.2.2.2.2.2) Q (F0 m pc ls (.int i :: .ref (ad k) :: q.map (am_tv ad))) := by
  have he := am_ws_at (cid := cid) (ad := ad) ha.2
  rw [am_wE_z ha.1] at he
  exact va_zald C.1 C.2.1 hK hI.1 k 2 he rfl hi hd (kf _ _ _ _ h _ _ _ hI)
theorem am_s_lald (C : am_Cx p R s m args meth c mi) (hK : va_K D vwCl (am_tys cid) s) (kf : am_kf p l e R s m args below meth c D cid ad A Q mi f M0 M1 r) (hI : am_I D cid ad A s mi M0 M H locs ls L) {i : Int32} (hd : decode (am_c mi) pc = .ok (.laload, 1)) (ha : am_at M k 21) (hi : am_in i (M.2.2.2.1 k).2) (h : f (pc + 1) L (.long (M.2.1 k i.toNatClampNeg) :: q) M = some (r, M1)) :
    W p l e R s m args below meth c H locs (M.2.2.2.2.1 - M0.2.2.2.2.1) (M.2.2.2.2.2 - M0.2.2.2.2.2) Q (F0 m pc ls (.int i :: .ref (ad k) :: q.map (am_tv ad))) := by
  have he := am_ws_at (cid := cid) (ad := ad) ha.2
  rw [am_wE_l ha.1] at he
  exact va_lald C.1 C.2.1 hK hI.1 k 1 he rfl hi hd (kf _ _ _ _ h _ _ _ hI)
theorem am_s_aald (C : am_Cx p R s m args meth c mi) (hK : va_K D vwCl (am_tys cid) s) (kf : am_kf p l e R s m args below meth c D cid ad A Q mi f M0 M1 r) (hI : am_I D cid ad A s mi M0 M H locs ls L) {i : Int32} {kd : Nat} (hd : decode (am_c mi) pc = .ok (.aaload, 1)) (h1 : 23 ≤ kd) (h2 : kd ≤ 27) (ha : am_at M k kd) (hi : am_in i (M.2.2.2.1 k).2) (h : f (pc + 1) L (va_rf (M.2.2.1 k i.toNatClampNeg) :: q) M = some (r, M1)) :
    W p l e R s m args below meth c H locs (M.2.2.2.2.1 - M0.2.2.2.2.1) (M.2.2.2.2.2 - M0.2.2.2.2.2) Q (F0 m pc ls (.int i :: .ref (ad k) :: q.map (am_tv ad))) := by
  have he := am_ws_at (cid := cid) (ad := ad) ha.2
  rw [am_wE_q ha.1 h1] at he
  have hk := kf _ _ _ _ h _ _ _ hI
  rw [List.map_cons, am_tv_rf] at hk
  rcases (show kd = 23 ∨ kd = 24 ∨ kd = 25 ∨ kd = 26 ∨ kd = 27 by omega) with rfl | rfl | rfl | rfl | rfl
  · exact va_aldq C.1 C.2.1 hK hI.1 k 3 he rfl hi hd hk
  · exact va_aldq C.1 C.2.1 hK hI.1 k 4 he rfl hi hd hk
  · exact va_aldq C.1 C.2.1 hK hI.1 k 5 he rfl hi hd hk
  · exact va_aldq C.1 C.2.1 hK hI.1 k 6 he rfl hi hd hk
  · have hlt : i.toNatClampNeg < (M.2.2.2.1 k).2 := Nat.not_le.mp fun z => hi (Or.inr z)
    exact W.aald (v := va_rf ((M.2.2.1 k i.toNatClampNeg).map ad)) (ty := .array .int) C.1 C.2.1 (hI.1 k _ he) ((hK.2 7 _ rfl).1 (M.2.2.2.1 k).2 (fun j => va_rf ((M.2.2.1 k j).map ad))) rfl (fun z => by cases z) (by show ¬ (i < 0 ∨ (arrV _ _ _).slots.size ≤ _); rw [arrV_size]; exact hi) (by show (arrV _ _ _).slots[_]? = _; rw [arrV_read _ _ hlt]) rfl rfl hd hk
theorem am_s_iast (C : am_Cx p R s m args meth c mi) (hK : va_K D vwCl (am_tys cid) s) (kf : am_kf p l e R s m args below meth c D cid ad A Q mi f M0 M1 r) (hI : am_I D cid ad A s mi M0 M H locs ls L) {i x : Int32} (hd : decode (am_c mi) pc = .ok (.iastore, 1)) (ha : am_at M k 20) (hi : am_in i (M.2.2.2.1 k).2) (h : f (pc + 1) L q (am_sI M k i.toNatClampNeg x) = some (r, M1)) :
    W p l e R s m args below meth c H locs (M.2.2.2.2.1 - M0.2.2.2.2.1) (M.2.2.2.2.2 - M0.2.2.2.2.2) Q (F0 m pc ls (.int x :: .int i :: .ref (ad k) :: q.map (am_tv ad))) := by
  have he := am_ws_at (cid := cid) (ad := ad) ha.2
  rw [am_wE_i ha.1] at he
  have hws := am_wsI (cid := cid) (ad := ad) (M := M) (k := k) (j := i.toNatClampNeg) (x := x) (e := .inl (cid 20, (M.2.2.2.1 k).2, .inl (upd (M.1 k) i.toNatClampNeg x))) ((am_wE_i (M := am_sI M k i.toNatClampNeg x) ha.1).trans (by rw [← am_u2_upd]; rfl))
  refine va_iast C.1 C.2.1 hK hI.1 hI.2.1 hI.at k 0 he rfl hi hd (fun H1 locs1 hP1 hD1 hS1 => ?_)
  rw [hws] at hP1 hD1
  exact kf _ _ _ _ h _ _ _ (hI.put rfl hP1 hD1 hS1)
theorem am_s_zast (C : am_Cx p R s m args meth c mi) (hK : va_K D vwCl (am_tys cid) s) (kf : am_kf p l e R s m args below meth c D cid ad A Q mi f M0 M1 r) (hI : am_I D cid ad A s mi M0 M H locs ls L) {i x : Int32} (hd : decode (am_c mi) pc = .ok (.bastore, 1)) (ha : am_at M k 22) (hi : am_in i (M.2.2.2.1 k).2) (hx : x = 0 ∨ x = 1) (h : f (pc + 1) L q (am_sI M k i.toNatClampNeg x) = some (r, M1)) :
    W p l e R s m args below meth c H locs (M.2.2.2.2.1 - M0.2.2.2.2.1) (M.2.2.2.2.2 - M0.2.2.2.2.2) Q (F0 m pc ls (.int x :: .int i :: .ref (ad k) :: q.map (am_tv ad))) := by
  have he := am_ws_at (cid := cid) (ad := ad) ha.2
  rw [am_wE_z ha.1] at he
  have hnx : vp_nar .boolean x = x := by rcases hx with rfl | rfl <;> decide
  have hws := am_wsI (cid := cid) (ad := ad) (M := M) (k := k) (j := i.toNatClampNeg) (x := x) (e := .inl (cid 22, (M.2.2.2.1 k).2, .inl (upd (M.1 k) i.toNatClampNeg (vp_nar .boolean x)))) ((am_wE_z (M := am_sI M k i.toNatClampNeg x) ha.1).trans (by rw [hnx, ← am_u2_upd]; rfl))
  refine va_zast C.1 C.2.1 hK hI.1 hI.2.1 hI.at k 2 he rfl hi hd (fun H1 locs1 hP1 hD1 hS1 => ?_)
  rw [hws] at hP1 hD1
  exact kf _ _ _ _ h _ _ _ (hI.put rfl hP1 hD1 hS1)
theorem am_s_last (C : am_Cx p R s m args meth c mi) (hK : va_K D vwCl (am_tys cid) s) (kf : am_kf p l e R s m args below meth c D cid ad A Q mi f M0 M1 r) (hI : am_I D cid ad A s mi M0 M H locs ls L) {i : Int32} {x : Int64} (hd : decode (am_c mi) pc = .ok (.lastore, 1)) (ha : am_at M k 21) (hi : am_in i (M.2.2.2.1 k).2) (h : f (pc + 1) L q (am_sL M k i.toNatClampNeg x) = some (r, M1)) :
    W p l e R s m args below meth c H locs (M.2.2.2.2.1 - M0.2.2.2.2.1) (M.2.2.2.2.2 - M0.2.2.2.2.2) Q (F0 m pc ls (.long x :: .int i :: .ref (ad k) :: q.map (am_tv ad))) := by
  have he := am_ws_at (cid := cid) (ad := ad) ha.2
  rw [am_wE_l ha.1] at he
  have hws := am_wsL (cid := cid) (ad := ad) (M := M) (k := k) (j := i.toNatClampNeg) (x := x) (e := .inl (cid 21, (M.2.2.2.1 k).2, .inr (.inl (vp_updL (M.2.1 k) i.toNatClampNeg x)))) ((am_wE_l (M := am_sL M k i.toNatClampNeg x) ha.1).trans (by rw [← am_u2_updL]; rfl))
  refine va_last C.1 C.2.1 hK hI.1 hI.2.1 hI.at k 1 he rfl hi hd (fun H1 locs1 hP1 hD1 hS1 => ?_)
  rw [hws] at hP1 hD1
  exact kf _ _ _ _ h _ _ _ (hI.put rfl hP1 hD1 hS1)
theorem am_u2_up (I : Nat → Nat → Option Nat) (ad : Nat → Nat) (k j x : Nat) : (fun b => (am_u2 I k j (some x) k b).map ad) = va_up (fun b => (I k b).map ad) j (some (ad x)) := by
  funext b; unfold am_u2 va_up; by_cases h : b = j <;> simp [h]
theorem am_s_aast (C : am_Cx p R s m args meth c mi) (hK : va_K D vwCl (am_tys cid) s) (kf : am_kf p l e R s m args below meth c D cid ad A Q mi f M0 M1 r) (hI : am_I D cid ad A s mi M0 M H locs ls L) {i : Int32} {x kd : Nat} (hd : decode (am_c mi) pc = .ok (.aastore, 1)) (h1 : 23 ≤ kd) (h2 : kd ≤ 26) (ha : am_at M k kd) (hx : am_at M x (am_el kd)) (hi : am_in i (M.2.2.2.1 k).2) (h : f (pc + 1) L q (am_sR M k i.toNatClampNeg (some x)) = some (r, M1)) :
    W p l e R s m args below meth c H locs (M.2.2.2.2.1 - M0.2.2.2.2.1) (M.2.2.2.2.2 - M0.2.2.2.2.2) Q (F0 m pc ls (.ref (ad x) :: .int i :: .ref (ad k) :: q.map (am_tv ad))) := by
  have he := am_ws_at (cid := cid) (ad := ad) ha.2
  rw [am_wE_q ha.1 h1] at he
  have hws := am_wsR (cid := cid) (ad := ad) (M := M) (k := k) (j := i.toNatClampNeg) (x := some x) (e := .inl (cid kd, (M.2.2.2.1 k).2, .inr (.inr (.inr (.inr (va_up (fun b => (M.2.2.1 k b).map ad) i.toNatClampNeg (some (ad x)))))))) ((am_wE_q (M := am_sR M k i.toNatClampNeg (some x)) ha.1 h1).trans (by rw [← am_u2_up]; rfl))
  have hv := am_ws_at (cid := cid) (ad := ad) hx.2
  have hel : am_el kd < 13 := by rcases (show kd = 23 ∨ kd = 24 ∨ kd = 25 ∨ kd = 26 by omega) with rfl | rfl | rfl | rfl <;> decide
  rw [am_wE_o hx.1 hel] at hv
  have kk : ∀ (H1 : Heap) (locs1 : List Loc), va_P D vwCl ((am_ws cid ad M).set k (ad k, .inl (cid kd, (M.2.2.2.1 k).2, .inr (.inr (.inr (.inr (va_up (fun b => (M.2.2.1 k b).map ad) i.toNatClampNeg (some (ad x))))))))) H1 → va_D A ((am_ws cid ad M).set k (ad k, .inl (cid kd, (M.2.2.2.1 k).2, .inr (.inr (.inr (.inr (va_up (fun b => (M.2.2.1 k b).map ad) i.toNatClampNeg (some (ad x))))))))) → va_S A H H1 locs1 → W p l e R s m args below meth c H1 locs1 (M.2.2.2.2.1 - M0.2.2.2.2.1) (M.2.2.2.2.2 - M0.2.2.2.2.2) Q (F0 m (pc + 1) ls (q.map (am_tv ad))) := by
    intro H1 locs1 hP1 hD1 hS1
    rw [hws] at hP1 hD1
    exact kf _ _ _ _ h _ _ _ (hI.put rfl hP1 hD1 hS1)
  rcases (show kd = 23 ∨ kd = 24 ∨ kd = 25 ∨ kd = 26 by omega) with rfl | rfl | rfl | rfl
  · exact va_astq C.1 C.2.1 hK hI.1 hI.2.1 hI.at k 3 x 1 (r := (am_cn 1, am_ct 1, am_nf 1)) he rfl hv rfl hi hd kk
  · exact va_astq C.1 C.2.1 hK hI.1 hI.2.1 hI.at k 4 x 4 (r := (am_cn 4, am_ct 4, am_nf 4)) he rfl hv rfl hi hd kk
  · exact va_astq C.1 C.2.1 hK hI.1 hI.2.1 hI.at k 5 x 7 (r := (am_cn 7, am_ct 7, am_nf 7)) he rfl hv rfl hi hd kk
  · exact va_astq C.1 C.2.1 hK hI.1 hI.2.1 hI.at k 6 x 10 (r := (am_cn 10, am_ct 10, am_nf 10)) he rfl hv rfl hi hd kk
theorem am_s_alen (C : am_Cx p R s m args meth c mi) (hK : va_K D vwCl (am_tys cid) s) (kf : am_kf p l e R s m args below meth c D cid ad A Q mi f M0 M1 r) (hI : am_I D cid ad A s mi M0 M H locs ls L) (hd : decode (am_c mi) pc = .ok (.arraylength, 1)) (h1 : 20 ≤ (M.2.2.2.1 k).1) (h2 : (M.2.2.2.1 k).1 < 28) (h3 : k < M.2.2.2.2.1) (h : f (pc + 1) L (.int (Int32.ofNat (M.2.2.2.1 k).2) :: q) M = some (r, M1)) :
    W p l e R s m args below meth c H locs (M.2.2.2.2.1 - M0.2.2.2.2.1) (M.2.2.2.2.2 - M0.2.2.2.2.2) Q (F0 m pc ls (.ref (ad k) :: q.map (am_tv ad))) := by
  have he := am_ws_at (cid := cid) (ad := ad) h3
  have hk := kf _ _ _ _ h _ _ _ hI
  rcases (show (M.2.2.2.1 k).1 = 20 ∨ (M.2.2.2.1 k).1 = 21 ∨ (M.2.2.2.1 k).1 = 22 ∨ (M.2.2.2.1 k).1 = 23 ∨ (M.2.2.2.1 k).1 = 24 ∨ (M.2.2.2.1 k).1 = 25 ∨ (M.2.2.2.1 k).1 = 26 ∨ (M.2.2.2.1 k).1 = 27 by omega) with z | z | z | z | z | z | z | z
  · rw [am_wE_i z] at he; exact va_alen C.1 C.2.1 hK hI.1 k 0 he rfl rfl hd hk
  · rw [am_wE_l z] at he; exact va_alen C.1 C.2.1 hK hI.1 k 1 he rfl rfl hd hk
  · rw [am_wE_z z] at he; exact va_alen C.1 C.2.1 hK hI.1 k 2 he rfl rfl hd hk
  · rw [am_wE_q z (by omega)] at he; exact va_alen C.1 C.2.1 hK hI.1 k 3 he rfl rfl hd hk
  · rw [am_wE_q z (by omega)] at he; exact va_alen C.1 C.2.1 hK hI.1 k 4 he rfl rfl hd hk
  · rw [am_wE_q z (by omega)] at he; exact va_alen C.1 C.2.1 hK hI.1 k 5 he rfl rfl hd hk
  · rw [am_wE_q z (by omega)] at he; exact va_alen C.1 C.2.1 hK hI.1 k 6 he rfl rfl hd hk
  · rw [am_wE_q z (by omega)] at he; exact va_alen C.1 C.2.1 hK hI.1 k 7 he rfl rfl hd hk
end SMM
