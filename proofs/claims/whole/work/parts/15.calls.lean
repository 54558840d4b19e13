/-! CALLS are sound. -/
theorem am_mlb : ∀ mi, mi < 293 → am_ml mi ≤ 21 := by decide +kernel
theorem am_wObj : tables_1[28]? = some (Cond.instanceMethod objectInit) := by decide +kernel
theorem am_wObjC : tables_1[29]? = some (Cond.code objectInit ⟨#[0xb1]⟩ 1 none) := by decide +kernel
theorem am_wSys : tables_1[21]? = some (Cond.initialized "java/lang/System") := by decide +kernel
theorem am_wAcS : tables_1[1102]? = some (Cond.static arraycopyName) := by decide +kernel
theorem am_wAcN : tables_1[1103]? = some (Cond.native arraycopyName) := by decide +kernel
theorem am_wMT : tables_1[652]? = some (Cond.fieldLink "TyreWorks$Plan" 88 "TyreWorks$Plan" "MOST_TOLD" "[I") := by decide +kernel
theorem am_nfw : nativeFrameWords "java/lang/System" "arraycopy" 5 + 11 ≤ 300 := by decide +kernel
theorem am_goodW {w : Cond} (h : w ∈ am_W) : (w.onTables && w.keeps) = true ∨ ∃ ty, w = .arrayClass ty := good_of_word (List.mem_filter.mp h).2
theorem am_good (a : Nat) (h : a < 293) : GoodIn am_W (am_wsm a) := by
  intro w hw
  have hm : w ∈ am_W := by
    rcases List.mem_cons.mp hw with q | q
    · rw [q]; exact am_inT (am_cw a h) rfl
    · exact q
  exact ⟨hm, am_goodW hm⟩
theorem am_goodC {a : Nat} (h : a < 293) (x : Cond) (hx : x ∈ am_W) {ws : List Cond} (hg : GoodIn am_W ws) : GoodIn am_W (x :: ws) := by
  intro w hw
  rcases List.mem_cons.mp hw with q | q
  · rw [q]; exact ⟨hx, am_goodW hx⟩
  · exact hg w q
theorem am_goodW1 {i : Nat} {w : Cond} (h : tables_1[i]? = some w) (g : goodWord w = true) : w ∈ am_W := am_inT (List.mem_of_getElem? h) g
theorem am_goodS {a : Nat} (h : a < 293) {own idx : Nat} (hl : Cond.methodLink (am_cn own) idx (am_y a) ∈ am_W) (hs : am_sk a = 0) : GoodIn am_W (va_wsS (am_cn own) idx (am_y a) (am_wsm a)) := by
  have h1 := am_iw a h
  rw [if_pos hs] at h1
  have h2 := am_NI (am_own a) (am_yc5 a h).1
  unfold va_wsS
  refine am_goodC h _ hl (am_goodC h _ (am_goodW1 h1 rfl) (am_goodC h _ ?_ (am_good a h)))
  rw [am_yc1 a h]
  exact am_goodW1 h2 rfl
theorem am_goodV {a : Nat} (h : a < 293) {own idx : Nat} (hl : Cond.methodLink (am_cn own) idx (am_y a) ∈ am_W) (hs : am_sk a = 2) : GoodIn am_W (wsV (am_cn own) idx (am_cn (am_own a)) (am_y a) (am_wsm a)) := by
  have h1 := am_iw a h
  rw [if_neg (by rw [hs]; decide)] at h1
  have h2 := am_NI (am_own a) (am_yc5 a h).1
  unfold wsV
  exact am_goodC h _ hl (am_goodC h _ (am_goodW1 h1 rfl) (am_goodC h _ (am_inW (List.mem_of_getElem? (am_sw' a h hs)) rfl) (am_goodC h _ (am_goodW1 h2 rfl) (am_good a h))))
section SCL
variable {p : Program} {l : Launch} {e : Env} {R : Room} {s : State} {m : MethodId} {args : Array Value} {below : List Frame} {meth : Method} {c : Code} {D : va_G} {cid : Nat → ClassId} {ad : Nat → Nat} {A : Nat → Prop} {Q : State → Prop}
variable {mi pc : Nat} {g : Nat → List Value → am_M → am_O} {f : Nat → List Value → List Value → am_M → am_O} {L st : List Value} {M M' M0 M1 : am_M} {r r0 : Option Value} {H : Heap} {locs : List Loc} {ls : Array Slot} {k d : Nat} {q : List Value}
/-- the heap is no larger than what was made -/
theorem am_eqW {cells slots : Nat} {fr : JFrame} (k : H.size ≤ s.heap.size + cells → W p l e R s m args below meth c H locs cells slots Q fr) : W p l e R s m args below meth c H locs cells slots Q fr := fun T hT X => k (by rw [← hT]; exact X.heapSize) T hT X
theorem am_Asub (hI : am_I D cid ad A s mi M0 M H locs ls L) (hA : ∀ q, s.heap.size ≤ q → A q) : ∀ q, va_A (am_ws cid ad M) H.size q → A q := by
  intro q h
  rcases h with ⟨k, e, h⟩ | h
  · exact hI.2.1.2 k (q, e) h
  · exact hA q (Nat.le_trans hI.2.2.1.1 h)
theorem am_toList (ad : Nat → Nat) (r0 : Option Value) (q : List Value) : (r0.toList ++ q).map (am_tv ad) = (r0.map (am_tv ad)).toList ++ q.map (am_tv ad) := by cases r0 <;> rfl
theorem am_after (kf : am_kf p l e R s m args below meth c D cid ad A Q mi f M0 M1 r) (hI : am_I D cid ad A s mi M0 M H locs ls L) (hA : ∀ q, s.heap.size ≤ q → A q) {st0 : List Value} {av : Array Value} (hg : am_gw M M')
    (hrun : va_Run p l e R s m args below meth c H locs (M.2.2.2.2.1 - M0.2.2.2.2.1) (M.2.2.2.2.2 - M0.2.2.2.2.2) (M'.2.2.2.2.1 - M.2.2.2.2.1) (M'.2.2.2.2.2 - M.2.2.2.2.2) (F0 m pc ls st0) (q.map (am_tv ad)) (am_Post D cid ad H.size M r0 M' av) (va_A (am_ws cid ad M) H.size)) (h : f (pc + 3) L (r0.toList ++ q) M' = some (r, M1)) :
    W p l e R s m args below meth c H locs (M.2.2.2.2.1 - M0.2.2.2.2.1) (M.2.2.2.2.2 - M0.2.2.2.2.2) Q (F0 m pc ls st0) := by
  refine am_goes hrun (fun v st₀ t locs1 h0 hq hlo => ?_)
  obtain ⟨ho, hP1, hD1, hok1, hsz1, -, -, hF1⟩ := hq
  cases ho
  have hsub := am_Asub hI hA
  obtain ⟨-, -, hS, hl, -, hsz, hgw⟩ := hI
  have hF2 : H.size ≤ t.heap.size := by rw [← h0]; exact hF1.1
  have hI' : am_I D cid ad A s mi M0 M' t.heap locs1 ls L := by
    refine ⟨hP1, hD1.weaken (fun _ _ _ z => hsub _ z), ⟨Nat.le_trans hS.1 hF2, fun x h1 h2 => ?_, fun x hx => ?_⟩, hl, hok1, ?_, hgw.trans hg⟩
    · have := hF1.2 x (by rw [h0]; exact Nat.lt_of_lt_of_le h1 hS.1) (fun z => h2 (hsub x z))
      rw [this, h0]
      exact hS.2.1 x h1 h2
    · rcases hlo x hx with z | z
      · exact hS.2.2 x z
      · exact hsub _ z
    · have := hg.1; have := hgw.1; omega
  have hk := kf _ _ _ _ h _ _ _ hI'
  rw [am_toList] at hk
  have e1 : M.2.2.2.2.1 - M0.2.2.2.2.1 + (M'.2.2.2.2.1 - M.2.2.2.2.1) = M'.2.2.2.2.1 - M0.2.2.2.2.1 := by have := hg.1; have := hgw.1; omega
  have e2 : M.2.2.2.2.2 - M0.2.2.2.2.2 + (M'.2.2.2.2.2 - M.2.2.2.2.2) = M'.2.2.2.2.2 - M0.2.2.2.2.2 := by have := hg.2; have := hgw.2; omega
  rw [e1, e2]
  exact hk
/-- the callee's start -/
theorem am_pre (hK : va_K D vwCl (am_tys cid) s) (hRO : am_RO ad A s s.heap) (hA : ∀ q, s.heap.size ≤ q → A q) (hal : ∀ k, M0.2.2.2.2.1 ≤ k → k < M1.2.2.2.2.1 → ad k = s.heap.size + (k - M0.2.2.2.2.1)) (hI : am_I D cid ad A s mi M0 M H locs ls L) (hz : H.size ≤ s.heap.size + (M.2.2.2.2.1 - M0.2.2.2.2.1)) (hg1 : am_gw M' M1) : ∀ U : State, U.heap = H → s.WarmedH U.vm → am_Pre D cid ad H.size M M' U := by
  intro U hU hW
  have hsub := am_Asub hI hA
  obtain ⟨hP, hD, hS, -, hok, hsz, hgw⟩ := hI
  refine ⟨by rw [hU], by rw [hU]; exact hP, va_K.moved hW.alike hK, hD.weaken (fun _ _ _ _ => trivial), hok, ?_, fun k h1 h2 => ?_⟩
  · rw [hU]
    exact ((hRO.warm hW).kept (H1 := H) (fun a h1 h2 => hS.2.1 a h1 h2)).narrow hsub
  · rw [hal k (Nat.le_trans hgw.1 h1) (Nat.lt_of_lt_of_le h2 hg1.1)]
    have := hgw.1
    omega
/-- the room of a caller at depth d + 1 -/
def am_Rm (R : Room) (d : Nat) (M0 M1 : am_M) : Prop := R.frames = d + 9 ∧ R.locals = 40 * (d + 9) ∧ R.cells = M1.2.2.2.2.1 - M0.2.2.2.2.1 ∧ R.slots = M1.2.2.2.2.2 - M0.2.2.2.2.2
theorem am_fit (hR : am_Rm R d M0 M1) (hgw : am_gw M0 M) (hg : am_gw M M') (hg1 : am_gw M' M1) : M.2.2.2.2.1 - M0.2.2.2.2.1 + (M'.2.2.2.2.1 - M.2.2.2.2.1) ≤ R.cells ∧ M.2.2.2.2.2 - M0.2.2.2.2.2 + (M'.2.2.2.2.2 - M.2.2.2.2.2) ≤ R.slots := by
  rw [hR.2.2.1, hR.2.2.2]
  have := hgw.1; have := hgw.2; have := hg.1; have := hg.2; have := hg1.1; have := hg1.2
  exact ⟨by omega, by omega⟩
theorem am_rmle (hR : am_Rm R d M0 M1) {a : Nat} (h : a < 293) (M M' : am_M) : (am_rm d M M').frames + 1 ≤ R.frames ∧ 8 + (am_ml a + 11) + (am_rm d M M').locals ≤ R.locals := by
  have := am_mlb a h
  rw [hR.1, hR.2.1]
  show d + 8 + 1 ≤ d + 9 ∧ 8 + (am_ml a + 11) + 40 * (d + 8) ≤ 40 * (d + 9)
  omega
theorem am_s_callS (C : am_Cx p R s m args meth c mi) (hK : va_K D vwCl (am_tys cid) s) (hRO : am_RO ad A s s.heap) (hA : ∀ q, s.heap.size ≤ q → A q) (hal : ∀ k, M0.2.2.2.2.1 ≤ k → k < M1.2.2.2.2.1 → ad k = s.heap.size + (k - M0.2.2.2.2.1)) (hR : am_Rm R d M0 M1) (kf : am_kf p l e R s m args below meth c D cid ad A Q mi f M0 M1 r) (hI : am_I D cid ad A s mi M0 M H locs ls L)
    {idx a : Nat} {as : List Value} (hd : decode (am_c mi) pc = .ok (.invokestatic idx, 3)) (ha : a < 293) (hsk : am_sk a = 0) (hl : Cond.methodLink (am_cn (am_own mi)) idx (am_y a) ∈ am_W) (hn : as.length = am_np a) (hc : am_cats q ≤ 8) (hm : am_Met l D cid ad d a as M r0 M') (hg : am_gw M M') (hg1 : am_gw M' M1) (h : f (pc + 3) L (r0.toList ++ q) M' = some (r, M1)) :
    W p l e R s m args below meth c H locs (M.2.2.2.2.1 - M0.2.2.2.2.1) (M.2.2.2.2.2 - M0.2.2.2.2.2) Q (F0 m pc ls ((as.map (am_tv ad)).reverse ++ q.map (am_tv ad))) := by
  refine am_eqW (fun hz => ?_)
  obtain ⟨hx, hb, -, hml, hown, hts, -⟩ := C
  have hy := am_yc2 (am_own a) (am_yc5 a ha).1
  refine am_after (av := (as.map (am_tv ad)).toArray) kf hI hA hg ?_ h
  exact va_runS (As := as.map (am_tv ad)) (rest := q.map (am_tv ad)) ⟨hx, hb, hml, hown, hts⟩ (hm H.size)
    (va_cwS (am_np a) hts (am_goodS ha hl hsk) rfl rfl rfl ⟨by rw [am_yc1 a ha]; exact hy.1, by rw [am_yc1 a ha]; exact hy.2, am_yc3 a ha⟩ (am_rmle hR ha M M'))
    ⟨am_blind D cid ad H.size _ M M', fun U hU hW => ⟨rfl, am_pre hK hRO hA hal hI hz hg1 U hU hW⟩⟩ rfl (by rw [List.length_map]; exact hn) hI.2.2.2.1.1 rfl (lv_room (by rw [am_cats_tv]; exact hc)) hd (am_fit hR hI.2.2.2.2.2.2 hg hg1)
theorem am_s_callV (C : am_Cx p R s m args meth c mi) (hK : va_K D vwCl (am_tys cid) s) (hRO : am_RO ad A s s.heap) (hA : ∀ q, s.heap.size ≤ q → A q) (hal : ∀ k, M0.2.2.2.2.1 ≤ k → k < M1.2.2.2.2.1 → ad k = s.heap.size + (k - M0.2.2.2.2.1)) (hR : am_Rm R d M0 M1) (kf : am_kf p l e R s m args below meth c D cid ad A Q mi f M0 M1 r) (hI : am_I D cid ad A s mi M0 M H locs ls L)
    {idx a : Nat} {as : List Value} (hd : decode (am_c mi) pc = .ok (.invokevirtual idx, 3)) (ha : a < 293) (hsk : am_sk a = 2) (hl : Cond.methodLink (am_cn (am_own mi)) idx (am_y a) ∈ am_W) (hn : as.length = am_np a) (hk : am_at M k (am_own a)) (hc : am_cats q ≤ 8) (hm : am_Met l D cid ad d a (.ref k :: as) M r0 M') (hg : am_gw M M') (hg1 : am_gw M' M1) (h : f (pc + 3) L (r0.toList ++ q) M' = some (r, M1)) :
    W p l e R s m args below meth c H locs (M.2.2.2.2.1 - M0.2.2.2.2.1) (M.2.2.2.2.2 - M0.2.2.2.2.2) Q (F0 m pc ls ((as.map (am_tv ad)).reverse ++ .ref (ad k) :: q.map (am_tv ad))) := by
  refine am_eqW (fun hz => ?_)
  obtain ⟨hx, hb, -, hml, hown, hts, -⟩ := C
  have hy := am_yc2 (am_own a) (am_yc5 a ha).1
  have ho13 := (am_yc5 a ha).2 (by rw [hsk]; decide)
  have he := am_ws_at (cid := cid) (ad := ad) hk.2
  rw [am_wE_o hk.1 ho13] at he
  refine am_after (av := (Value.ref (ad k) :: as.map (am_tv ad)).toArray) kf hI hA hg ?_ h
  exact va_runV (C := am_cn (am_own a)) (As := as.map (am_tv ad)) (rest := q.map (am_tv ad)) ⟨hx, hb, hml, hown, hts⟩ (hm H.size)
    (cwV (am_np a) hts (am_goodV ha hl hsk) rfl rfl rfl ⟨am_yc1 a ha, by rw [am_yc1 a ha]; exact hy.1, by rw [am_yc1 a ha]; exact hy.2, am_yc3 a ha⟩ (am_rmle hR ha M M'))
    ⟨am_blind D cid ad H.size _ M M', va_recv hK hI.1 (am_cl _ ho13) he, fun U hU hW => ⟨rfl, am_pre hK hRO hA hal hI hz hg1 U hU hW⟩⟩ rfl (by rw [List.length_map]; exact hn) hI.2.2.2.1.1 rfl (lv_room (by rw [am_cats_tv]; exact hc)) hd (am_fit hR hI.2.2.2.2.2.2 hg hg1)
end SCL
