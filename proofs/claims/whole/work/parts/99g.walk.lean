/-! THE LAW: calls out of it, and making the two objects -/
def lw_ad (adr : Nat → Nat) (h k : Nat) : Nat := if k < 1000000 then h + k else adr k
theorem am_RO.cg {ad ad' : Nat → Nat} {A : Nat → Prop} {U : State} {H : Heap} (h : ∀ k, 1000000 ≤ k → ad' k = ad k) (hR : am_RO ad A U H) : am_RO ad' A U H := by
  have f1 : (fun i => ad' (1000000 + i)) = (fun i => ad (1000000 + i)) := funext fun i => h _ (by omega)
  have f2 : (fun i => ad' (1100000 + i)) = (fun i => ad (1100000 + i)) := funext fun i => h _ (by omega)
  unfold am_RO am_Str at hR ⊢
  rw [f1, f2, h 2000000 (by omega), h 1000000 (by omega), h 1000001 (by omega)]
  exact hR
section LWC
variable {p : Program} {l : Launch} {e : Env} {s : State} {m : MethodId} {below : List Frame} {meth : Method} {c : Code} {b L : Nat} {xs : Nat → Int32} {D : va_G} {cid : Nat → ClassId} {ad : Nat → Nat} {M M' : am_M} {H : Heap} {locs : List Loc} {cells slots pc idx a : Nat} {Q : State → Prop} {as q : List Value} {ls : Array Slot} {r : Int32}
theorem lw_sub (hD : va_D (lw_A0 s) (am_ws cid ad M)) (hS : va_S (lw_A0 s) s.heap H locs) : ∀ q, va_A (am_ws cid ad M) H.size q → lw_A0 s q := by
  intro q h
  rcases h with ⟨k, e, h⟩ | h
  · exact hD.2 k (q, e) h
  · exact Nat.le_trans hS.1 h
theorem lw_pre (hK : va_K D vwCl (am_tys cid) s) (hRO : am_RO ad (lw_A0 s) s s.heap) (hP : va_P D vwCl (am_ws cid ad M) H) (hD : va_D (lw_A0 s) (am_ws cid ad M)) (hS : va_S (lw_A0 s) s.heap H locs) (hok : am_okS M) (hal : ∀ k, M.2.2.2.2.1 ≤ k → k < M'.2.2.2.2.1 → ad k = H.size + (k - M.2.2.2.2.1)) : ∀ U : State, U.heap = H → s.WarmedH U.vm → am_Pre D cid ad H.size M M' U := by
  intro U hU hW
  refine ⟨by rw [hU], by rw [hU]; exact hP, va_K.moved hW.alike hK, hD.weaken (fun _ _ _ _ => trivial), hok, ?_, hal⟩
  rw [hU]
  exact ((hRO.warm hW).kept (H1 := H) (fun a h1 h2 => hS.2.1 a h1 h2)).narrow (lw_sub hD hS)
theorem lw_after (hD : va_D (lw_A0 s) (am_ws cid ad M)) (hS : va_S (lw_A0 s) s.heap H locs) {v : Option Value} {st0 : List Value} {av : Array Value} {mc ms : Nat}
    (hrun : va_Run p l e room_1 s m #[Value.ref b] below meth c H locs cells slots mc ms (F0 m pc ls st0) q (am_Post D cid ad H.size M v M' av) (va_A (am_ws cid ad M) H.size))
    (kk : ∀ (H' : Heap) (locs' : List Loc), va_P D vwCl (am_ws cid ad M') H' → va_D (lw_A0 s) (am_ws cid ad M') → va_S (lw_A0 s) s.heap H' locs' → am_okS M' → H.size + (M'.2.2.2.2.1 - M.2.2.2.2.1) ≤ H'.size → (∀ q : Nat, q < H.size → ¬ va_A (am_ws cid ad M) H.size q → H'[q]? = H[q]?) → W p l e room_1 s m #[Value.ref b] below meth c H' locs' (cells + mc) (slots + ms) Q (F0 m (pc + 3) ls ((v.map (am_tv ad)).toList ++ q))) :
    W p l e room_1 s m #[Value.ref b] below meth c H locs cells slots Q (F0 m pc ls st0) := by
  refine am_goes hrun (fun v' st₀ t locs1 h0 hq hlo => ?_)
  obtain ⟨ho, hP1, hD1, hok1, hsz1, -, -, hF1⟩ := hq
  cases ho
  have hsub := lw_sub hD hS
  have hF2 : H.size ≤ t.heap.size := by rw [← h0]; exact hF1.1
  have hfr : ∀ q : Nat, q < H.size → ¬ va_A (am_ws cid ad M) H.size q → t.heap[q]? = H[q]? := fun q h1 h2 => by
    have := hF1.2 q (by rw [h0]; exact h1) h2
    rw [this, h0]
  refine kk t.heap locs1 hP1 (hD1.weaken (fun _ _ _ z => hsub _ z)) ⟨Nat.le_trans hS.1 hF2, fun x h1 h2 => ?_, fun x hx => ?_⟩ hok1 hsz1 hfr
  · rw [hfr x (Nat.lt_of_lt_of_le h1 hS.1) (fun z => h2 (hsub x z))]
    exact hS.2.1 x h1 h2
  · rcases hlo x hx with z | z
    · exact hS.2.2 x z
    · exact hsub _ z
/-- a call of one of the public methods -/
theorem lw_call (C0 : lw_At p s m meth c b L xs) (hK : va_K D vwCl (am_tys cid) s) (hRO : am_RO ad (lw_A0 s) s s.heap) (hP : va_P D vwCl (am_ws cid ad M) H) (hD : va_D (lw_A0 s) (am_ws cid ad M)) (hS : va_S (lw_A0 s) s.heap H locs) (hok : am_okS M)
    (hd : decode code pc = .ok (.invokevirtual idx, 3)) (ha : a < 293) (hsk : am_sk a = 2) (hl : Cond.methodLink R_law idx (am_y a) ∈ tables_1) (hn : as.length = am_np a) (hk : am_at M 0 (am_own a)) (has : as.map (am_tv ad) = as) (hq : am_cats q ≤ 8) (hrun : am_G (am_ev 100) a (.ref 0 :: as) M = some (some (.int r), M')) (hn1 : M'.2.2.2.2.1 = M.2.2.2.2.1) (hw1 : M'.2.2.2.2.2 = M.2.2.2.2.2) (hls : ls.size = 4) (hcs : cells ≤ 600000) (hss : slots ≤ 7302249)
    (kk : ∀ (H' : Heap) (locs' : List Loc), va_P D vwCl (am_ws cid ad M') H' → va_D (lw_A0 s) (am_ws cid ad M') → va_S (lw_A0 s) s.heap H' locs' → am_okS M' → (∀ q : Nat, q < H.size → ¬ va_A (am_ws cid ad M) H.size q → H'[q]? = H[q]?) → W p l e room_1 s m #[Value.ref b] below meth c H' locs' cells slots Q (F0 m (pc + 3) ls (.int r :: q))) :
    W p l e room_1 s m #[Value.ref b] below meth c H locs cells slots Q (F0 m pc ls (as.reverse ++ .ref (ad 0) :: q)) := by
  obtain ⟨hx, hb, hr, hml, hown, hts, hX, hbl, hlocks, hgv⟩ := C0
  have htw : ∀ w ∈ am_W, w.before #[Value.ref b] s = true := fun w hw => hts w (List.mem_filter.mp hw).1
  have hm := am_sound l D cid ad 100 a (.ref 0 :: as) M (some (.int r)) M' ha hrun H.size
  have hy := am_yc2 (am_own a) (am_yc5 a ha).1
  have ho13 := (am_yc5 a ha).2 (by rw [hsk]; decide)
  have he := am_ws_at (cid := cid) (ad := ad) hk.2
  rw [am_wE_o hk.1 ho13] at he
  have eas : (Value.ref 0 :: as).map (am_tv ad) = .ref (ad 0) :: as := by rw [List.map_cons, has]; rfl
  rw [eas] at hm
  have hgd : GoodIn am_W (wsV R_law idx (am_cn (am_own a)) (am_y a) (am_wsm a)) := by
    have h1 := am_iw a ha
    rw [if_neg (by rw [hsk]; decide)] at h1
    have h2 := am_NI (am_own a) (am_yc5 a ha).1
    unfold wsV
    exact am_goodC ha _ (am_inT hl rfl) (am_goodC ha _ (am_goodW1 h1 rfl) (am_goodC ha _ (am_inW (List.mem_of_getElem? (am_sw' a ha hsk)) rfl) (am_goodC ha _ (am_goodW1 h2 rfl) (am_good a ha))))
  have hmb := am_mlb a ha
  refine lw_after (D := D) (M' := M') (v := some (.int r)) (q := q) (av := (Value.ref (ad 0) :: as).toArray) (mc := M'.2.2.2.2.1 - M.2.2.2.2.1) (ms := M'.2.2.2.2.2 - M.2.2.2.2.2) hD hS ?_ (fun H' locs' h1 h2 h3 h4 _ h6 => ?_)
  · exact va_runV (C := am_cn (am_own a)) (As := as) (rest := q) ⟨hx, hb, hml, hown, htw⟩ hm
      (cwV (am_np a) htw hgd rfl rfl rfl ⟨am_yc1 a ha, by rw [am_yc1 a ha]; exact hy.1, by rw [am_yc1 a ha]; exact hy.2, am_yc3 a ha⟩ ⟨by show 101 + 8 + 1 ≤ 2048; omega, by show 8 + (am_ml a + 11) + 40 * (101 + 8) ≤ 84000; omega⟩)
      ⟨am_blind D cid ad H.size _ M M', va_recv hK hP (am_cl _ ho13) he, fun U hU hW => ⟨rfl, lw_pre hK hRO hP hD hS hok (fun k h1 h2 => by omega) U hU hW⟩⟩ rfl hn hls rfl (lv_room hq) hd ⟨by show cells + _ ≤ 600000; omega, by show slots + _ ≤ 7302249; omega⟩
  · have := kk H' locs' h1 h2 h3 h4 h6
    rw [hn1, hw1, Nat.sub_self, Nat.sub_self]
    exact this
/-- a constructor's call -/
theorem lw_init (C0 : lw_At p s m meth c b L xs) (hK : va_K D vwCl (am_tys cid) s) (hRO : am_RO ad (lw_A0 s) s s.heap) (hP : va_P D vwCl (am_ws cid ad M) H) (hD : va_D (lw_A0 s) (am_ws cid ad M)) (hS : va_S (lw_A0 s) s.heap H locs) (hok : am_okS M)
    (hd : decode code pc = .ok (.invokespecial idx, 3)) (ha : a < 293) (hsk : am_sk a = 1) (hl : Cond.methodLink R_law idx (am_y a) ∈ tables_1) (hn : am_np a = 0) (hq : am_cats q ≤ 8) (hrun : am_G (am_ev 5) a [.ref 0] M = some (none, M')) (hal : ∀ k, M.2.2.2.2.1 ≤ k → k < M'.2.2.2.2.1 → ad k = H.size + (k - M.2.2.2.2.1)) (hrt : am_rt a = none) (hls : ls.size = 4) (hcs : cells + (M'.2.2.2.2.1 - M.2.2.2.2.1) ≤ 600000) (hss : slots + (M'.2.2.2.2.2 - M.2.2.2.2.2) ≤ 7302249)
    (kk : ∀ (H' : Heap) (locs' : List Loc), va_P D vwCl (am_ws cid ad M') H' → va_D (lw_A0 s) (am_ws cid ad M') → va_S (lw_A0 s) s.heap H' locs' → am_okS M' → H.size + (M'.2.2.2.2.1 - M.2.2.2.2.1) ≤ H'.size → (∀ q : Nat, q < H.size → ¬ va_A (am_ws cid ad M) H.size q → H'[q]? = H[q]?) → W p l e room_1 s m #[Value.ref b] below meth c H' locs' (cells + (M'.2.2.2.2.1 - M.2.2.2.2.1)) (slots + (M'.2.2.2.2.2 - M.2.2.2.2.2)) Q (F0 m (pc + 3) ls q)) :
    W p l e room_1 s m #[Value.ref b] below meth c H locs cells slots Q (F0 m pc ls (.ref (ad 0) :: q)) := by
  obtain ⟨hx, hb, hr, hml, hown, hts, hX, hbl, hlocks, hgv⟩ := C0
  have htw : ∀ w ∈ am_W, w.before #[Value.ref b] s = true := fun w hw => hts w (List.mem_filter.mp hw).1
  have hm := am_sound l D cid ad 5 a [.ref 0] M none M' ha hrun H.size
  have hy := am_yc2 (am_own a) (am_yc5 a ha).1
  have hmb := am_mlb a ha
  have h1 := am_iw a ha
  rw [if_neg (by rw [hsk]; decide)] at h1
  have h2 := am_NI (am_own a) (am_yc5 a ha).1
  have hws : am_wsm a = Cond.code (am_y a) (am_c a) (am_ml a) none :: am_W := by unfold am_wsm; rw [hrt]
  refine lw_after (D := D) (M' := M') (v := none) (q := q) (av := ([Value.ref (ad 0)] : List Value).toArray) (mc := M'.2.2.2.2.1 - M.2.2.2.2.1) (ms := M'.2.2.2.2.2 - M.2.2.2.2.2) hD hS ?_ (fun H' locs' h1 h2 h3 h4 h5 h6 => kk H' locs' h1 h2 h3 h4 h5 h6)
  exact va_runI (As := []) (rest := q) ⟨hx, hb, hml, hown, htw⟩ hm
    (cwI 0 htw (am_good a ha) hws rfl rfl (by rw [am_yc1 a ha]; exact am_word htw h2 rfl) (htw _ (am_inT hl rfl)) (am_word htw h1 rfl) (am_yc4 a ha hsk) ⟨by rw [am_yc1 a ha]; exact hy.1, by rw [am_yc1 a ha]; exact hy.2, by rw [am_yc3 a ha, hn]⟩ ⟨by show 6 + 8 + 1 ≤ 2048; omega, by show 8 + (am_ml a + 11) + 40 * (6 + 8) ≤ 84000; omega⟩)
    ⟨am_blind D cid ad H.size _ M M', fun U hU hW => ⟨rfl, lw_pre hK hRO hP hD hS hok hal U hU hW⟩⟩ rfl rfl hls rfl (lv_room hq) hd ⟨hcs, hss⟩
/-- a new object -/
theorem lw_new (C0 : lw_At p s m meth c b L xs) (hK : va_K D vwCl (am_tys cid) s) (hS : va_S (lw_A0 s) s.heap H locs) (hd : decode code pc = .ok (.new idx, 3)) (ha : a < 13) (hl : Cond.classLink R_law idx (am_cn a) ∈ tables_1) (hcs : cells + 1 ≤ 600000) (hss : slots + am_nf a ≤ 7302249)
    (kk : ∀ H' : Heap, (∀ ad : Nat → Nat, va_at D vwCl (H.size, am_wE cid ad (lx_0 a (am_nf a)) 0) H') → H'.size = H.size + 1 → (∀ q : Nat, q < H.size → H'[q]? = H[q]?) → va_S (lw_A0 s) s.heap H' locs → W p l e room_1 s m #[Value.ref b] below meth c H' locs (cells + 1) (slots + am_nf a) Q (F0 m (pc + 3) ls (.ref H.size :: q))) :
    W p l e room_1 s m #[Value.ref b] below meth c H locs cells slots Q (F0 m pc ls q) := by
  obtain ⟨hx, hb, hr, hml, hown, hts, hX, hbl, hlocks, hgv⟩ := C0
  have htw : ∀ w ∈ am_W, w.before #[Value.ref b] s = true := fun w hw => hts w (List.mem_filter.mp hw).1
  have hKn := hK.1 a _ (am_cl a ha)
  refine W.newcK hx hb hown (htw _ (am_inT hl rfl)) (am_word htw (am_NS a ha) rfl) (am_word htw (am_NI a (by omega)) rfl) rfl hd hcs hss hKn.2.1 rfl (fun H' kC hkC e1 z1 o1 => kk H' (fun ad => ?_) z1 o1 ⟨Nat.le_trans hS.1 (by omega), fun x h1 h2 => (o1 x (Nat.lt_of_lt_of_le h1 hS.1)).trans (hS.2.1 x h1 h2), hS.2.2⟩)
  have hS0 : (lx_0 a (am_nf a)).2.2.2.1 0 = (a, am_nf a) := rfl
  rw [am_wE_o (ci := a) (by rw [hS0]) ha, hS0]
  refine ⟨_, am_cl a ha, (u_born (am_fty a) htw (am_uws a ha) hKn hkC e1 (am_tyok a ha)).to (fun j hj => ?_)⟩
  rw [am_defv ad (M := lx_0 a (am_nf a)) 0 a j ha hj rfl rfl rfl]
  have hj2 : j < am_nf a := hj
  simp [vp_V, hj2]
end LWC
