/-! EVERY STEP IS SOUND. -/
theorem am_inv_k {e : am_E} {g : Nat → List Value → am_M → am_O} {f : Nat → List Value → List Value → am_M → am_O} {pc : Nat} {L st : List Value} {M : am_M} (hc : e.2.2.2.2 < 15) : am_inv e g f pc L st M = match (st.take e.2.2.2.1).reverse with
    | .ref k :: as => if am_at M k e.2.2.2.2 ∧ am_cats (st.drop e.2.2.2.1) ≤ 8 ∧ e.2.2.2.1 ≤ st.length then am_call (g e.2.2.1 (.ref k :: as) M) (fun r M => f (pc + 3) L (r.toList ++ st.drop e.2.2.2.1) M) else none
    | _ => none := by
  unfold am_inv
  split
  · rename_i h; omega
  · rename_i h; omega
  · rename_i h; omega
  · rename_i h; omega
  · rename_i h; omega
  · rfl
theorem am_inv_some {e : am_E} {g : Nat → List Value → am_M → am_O} {f : Nat → List Value → List Value → am_M → am_O} {pc : Nat} {L st : List Value} {M : am_M} {r : Option Value × am_M} (hc : e.2.2.2.2 < 15) (h : am_inv e g f pc L st M = some r) : ∃ k as q v M', st = as.reverse ++ .ref k :: q ∧ as.length + 1 = e.2.2.2.1 ∧ am_at M k e.2.2.2.2 ∧ am_cats q ≤ 8 ∧ g e.2.2.1 (.ref k :: as) M = some (v, M') ∧ f (pc + 3) L (v.toList ++ q) M' = some r := by
  rw [am_inv_k hc] at h
  split at h
  · rename_i k as hst
    obtain ⟨⟨h1, h2, h3⟩, h⟩ := am_ite_some h
    obtain ⟨v, M', hg, h⟩ := am_call_some h
    refine ⟨k, as, st.drop e.2.2.2.1, v, M', ?_, ?_, h1, h2, hg, h⟩
    · have h5 : st.take e.2.2.2.1 = as.reverse ++ [.ref k] := by
        have := congrArg List.reverse hst
        simpa using this
      calc st = st.take e.2.2.2.1 ++ st.drop e.2.2.2.1 := (List.take_append_drop _ _).symm
        _ = _ := by rw [h5]; simp
    · have := congrArg List.length hst
      simp at this
      omega
  · cases h
theorem am_inv_s {e : am_E} {g : Nat → List Value → am_M → am_O} {f : Nat → List Value → List Value → am_M → am_O} {pc : Nat} {L st : List Value} {M : am_M} {r : Option Value × am_M} (hc : e.2.2.2.2 = 40) (h : am_inv e g f pc L st M = some r) : ∃ as q v M', st = as.reverse ++ q ∧ as.length = e.2.2.2.1 ∧ am_cats q ≤ 8 ∧ g e.2.2.1 as M = some (v, M') ∧ f (pc + 3) L (v.toList ++ q) M' = some r := by
  unfold am_inv at h
  rw [hc] at h
  obtain ⟨⟨h2, h3⟩, h⟩ := am_ite_some h
  obtain ⟨v, M', hg, h⟩ := am_call_some h
  refine ⟨(st.take e.2.2.2.1).reverse, st.drop e.2.2.2.1, v, M', ?_, ?_, h2, hg, h⟩
  · simp
  · simp; omega
def am_cp (f : Nat → List Value → List Value → am_M → am_O) (pc : Nat) (L st : List Value) (M : am_M) : am_O := match st with
  | .int n :: .int dp :: .ref b :: .int sp :: .ref a :: r => if am_at M a 20 ∧ am_at M b 20 ∧ a ≠ b ∧ ¬ sp < 0 ∧ ¬ dp < 0 ∧ ¬ n < 0 ∧ sp.toNatClampNeg + n.toNatClampNeg ≤ (M.2.2.2.1 a).2 ∧ dp.toNatClampNeg + n.toNatClampNeg ≤ (M.2.2.2.1 b).2 ∧ am_cats r ≤ 8 then f (pc + 3) L r (am_row M.1 b (va_cpy (M.1 a) (M.1 b) sp.toNatClampNeg dp.toNatClampNeg n.toNatClampNeg), M.2) else none
  | _ => none
theorem am_inv_c {e : am_E} {g : Nat → List Value → am_M → am_O} {f : Nat → List Value → List Value → am_M → am_O} {pc : Nat} {L st : List Value} {M : am_M} {r : Option Value × am_M} (hc : e.2.2.2.2 = 50) (h : am_inv e g f pc L st M = some r) : ∃ n dp b sp a q, st = .int n :: .int dp :: .ref b :: .int sp :: .ref a :: q ∧ (am_at M a 20 ∧ am_at M b 20 ∧ a ≠ b ∧ ¬ sp < 0 ∧ ¬ dp < 0 ∧ ¬ n < 0 ∧ sp.toNatClampNeg + n.toNatClampNeg ≤ (M.2.2.2.1 a).2 ∧ dp.toNatClampNeg + n.toNatClampNeg ≤ (M.2.2.2.1 b).2 ∧ am_cats q ≤ 8) ∧ f (pc + 3) L q (am_row M.1 b (va_cpy (M.1 a) (M.1 b) sp.toNatClampNeg dp.toNatClampNeg n.toNatClampNeg), M.2) = some r := by
  have h2 : am_cp f pc L st M = some r := by
    unfold am_inv at h
    rw [hc] at h
    exact h
  unfold am_cp at h2
  split at h2
  · obtain ⟨h3, h4⟩ := am_ite_some h2
    exact ⟨_, _, _, _, _, _, rfl, h3, h4⟩
  · cases h2
section SMN
variable {p : Program} {l : Launch} {e : Env} {R : Room} {s : State} {m : MethodId} {args : Array Value} {below : List Frame} {meth : Method} {c : Code} {D : va_G} {cid : Nat → ClassId} {ad : Nat → Nat} {A : Nat → Prop} {Q : State → Prop}
variable {mi pc : Nat} {en : am_E} {g : Nat → List Value → am_M → am_O} {f : Nat → List Value → List Value → am_M → am_O} {L st : List Value} {M M' M0 M1 : am_M} {r r0 : Option Value} {H : Heap} {locs : List Loc} {ls : Array Slot} {k d : Nat} {q : List Value}
set_option maxHeartbeats 8000000 in
theorem am_snd (C : am_Cx p R s m args meth c mi) (hK : va_K D vwCl (am_tys cid) s) (hRO : am_RO ad A s s.heap) (hA : ∀ q, s.heap.size ≤ q → A q) (hal : ∀ k, M0.2.2.2.2.1 ≤ k → k < M1.2.2.2.2.1 → ad k = s.heap.size + (k - M0.2.2.2.2.1)) (hR : am_Rm R d M0 M1) (kf : am_kf p l e R s m args below meth c D cid ad A Q mi f M0 M1 r) (hI : am_I D cid ad A s mi M0 M H locs ls L)
    (hdec : decode (am_c mi) pc = .ok (en.1, en.2.1)) (hlen : am_isSw en.1 = true ∨ en.2.1 = am_len en.1) (hok : am_okI mi pc en = true) (hgf : ∀ pc L st M, f pc L st M = some (r, M1) → am_gw M M1)
    (hg : ∀ a as M v M', a < 293 → g a as M = some (v, M') → am_Met l D cid ad d a as M v M' ∧ am_gw M M') (hQ : Q = MQ below (am_Post D cid ad s.heap.size M0 r M1) args s (M1.2.2.2.2.1 - M0.2.2.2.2.1) (M1.2.2.2.2.2 - M0.2.2.2.2.2) (va_A (am_ws cid ad M0) s.heap.size)) (hAe : A = va_A (am_ws cid ad M0) s.heap.size)
    (h : am_step en (am_rk mi) am_K g f pc L st M = some (r, M1)) : W p l e R s m args below meth c H locs (M.2.2.2.2.1 - M0.2.2.2.2.1) (M.2.2.2.2.2 - M0.2.2.2.2.2) Q (F0 m pc ls (st.map (am_tv ad))) := by
  have hx := C.1
  have hb := C.2.1
  have dd : ∀ i, en.1 = i → am_isSw i = false → decode (am_c mi) pc = .ok (i, am_len i) := by
    intro i hi hs
    rcases hlen with z | z
    · rw [hi, hs] at z; cases z
    · rw [hdec, z, hi]
  have hpost : ∀ (v : Option Value), r = v → M1 = M → ∀ t : State, t.heap = H → s.WarmedH t.vm → am_Post D cid ad s.heap.size M0 r M1 args s (.returned (v.map (am_tv ad))) t := by
    intro v hv hM t ht hW
    subst hv; subst hM; subst hAe
    obtain ⟨hP, hD, hS, -, hokS, hsz, hgw⟩ := hI
    exact ⟨rfl, by rw [ht]; exact hP, hD, hokS, by rw [ht]; exact hsz, hgw.1, hgw.2, hS.F ht⟩
  have hfree : ∀ x ∈ locs, va_A (am_ws cid ad M0) s.heap.size x.base := by rw [← hAe]; exact hI.2.2.1.2.2
  unfold am_step at h
  split at h
  · rename_i n he; exact lv_iconst hx hb (dd _ he rfl) rfl (kf _ _ _ _ h _ _ _ hI)
  · rename_i n he; exact lv_bipush hx hb (dd _ he rfl) rfl (kf _ _ _ _ h _ _ _ hI)
  · rename_i n he; exact lv_sipush hx hb (dd _ he rfl) rfl (kf _ _ _ _ h _ _ _ hI)
  · rename_i n he; exact lv_lconst hx hb (dd _ he rfl) rfl (kf _ _ _ _ h _ _ _ hI)
  · rename_i n he; simp only [am_okI, he] at hok; exact am_s_ldc2 C kf hI (dd _ he rfl) hok h
  · rename_i n he
    simp only [am_okI, he, Bool.and_eq_true, Bool.or_eq_true] at hok
    exact am_s_ldcs C hRO kf hI (dd _ he rfl) (Nat.eq_of_beq_eq_true hok.1) (hok.2.imp (fun z => ⟨Nat.eq_of_beq_eq_true z.1, Nat.eq_of_beq_eq_true z.2⟩) (fun z => ⟨Nat.eq_of_beq_eq_true z.1, Nat.eq_of_beq_eq_true z.2⟩)) h
  · rename_i n he
    simp only [am_okI, he, Bool.and_eq_true] at hok
    exact am_s_gets C hRO kf hI (dd _ he rfl) (Nat.eq_of_beq_eq_true hok.1) (Nat.eq_of_beq_eq_true hok.2) h
  · rename_i n he; obtain ⟨x, hv, h⟩ := am_isI_some h; exact lv_iload_n hx hb (dd _ he rfl) rfl (hI.ld hv (fun _ z => by cases z)) (kf _ _ _ _ h _ _ _ hI)
  · rename_i n he; obtain ⟨x, hv, h⟩ := am_isI_some h; exact lv_iload hx hb (dd _ he rfl) (hI.ld hv (fun _ z => by cases z)) (kf _ _ _ _ h _ _ _ hI)
  · rename_i n he; obtain ⟨x, hv, h⟩ := am_isL_some h; exact lv_lload_n hx hb (dd _ he rfl) rfl (hI.ld hv (fun _ z => by cases z)) (kf _ _ _ _ h _ _ _ hI)
  · rename_i n he; obtain ⟨x, hv, h⟩ := am_isL_some h; exact lv_lload hx hb (dd _ he rfl) (hI.ld hv (fun _ z => by cases z)) (kf _ _ _ _ h _ _ _ hI)
  · rename_i n he; obtain ⟨x, hv, h⟩ := am_isR_some h; exact lv_aload_n hx hb (dd _ he rfl) rfl (hI.ld hv (fun _ z => by cases z)) (kf _ _ _ _ h _ _ _ hI)
  · rename_i n he; obtain ⟨x, hv, h⟩ := am_isR_some h; exact lv_aload hx hb (dd _ he rfl) (hI.ld hv (fun _ z => by cases z)) (kf _ _ _ _ h _ _ _ hI)
  · rename_i n he
    simp only [am_okI, he] at hok
    obtain ⟨x, q, rfl, h⟩ := am_p1_some h
    exact lv_istore_n hx hb (dd _ he rfl) rfl (am_lv_has hI.2.2.2.1) (Nat.le_of_ble_eq_true hok) rfl (fun ls' hl' => kf _ _ _ _ h _ _ _ (hI.loc (am_lh_set1 (v := .int x) hl')))
  · rename_i n he
    simp only [am_okI, he] at hok
    obtain ⟨x, q, rfl, h⟩ := am_p1_some h
    exact lv_istore hx hb (dd _ he rfl) (am_lv_has hI.2.2.2.1) (Nat.le_of_ble_eq_true hok) rfl (fun ls' hl' => kf _ _ _ _ h _ _ _ (hI.loc (am_lh_set1 (v := .int x) hl')))
  · rename_i n he
    simp only [am_okI, he] at hok
    obtain ⟨x, q, rfl, h⟩ := am_p1L_some h
    exact lv_lstore_n hx hb (dd _ he rfl) rfl (am_lv_has hI.2.2.2.1) (Nat.le_of_ble_eq_true hok) rfl (fun ls' hl' => kf _ _ _ _ h _ _ _ (hI.loc (am_lh_set2 (v := .long x) hl')))
  · rename_i n he
    simp only [am_okI, he] at hok
    obtain ⟨x, q, rfl, h⟩ := am_p1L_some h
    exact lv_lstore hx hb (dd _ he rfl) (am_lv_has hI.2.2.2.1) (Nat.le_of_ble_eq_true hok) rfl (fun ls' hl' => kf _ _ _ _ h _ _ _ (hI.loc (am_lh_set2 (v := .long x) hl')))
  · rename_i n he
    simp only [am_okI, he] at hok
    obtain ⟨x, q, rfl, h⟩ := am_pR_some h
    exact lv_astore_n hx hb (dd _ he rfl) rfl (am_lv_has hI.2.2.2.1) (Nat.le_of_ble_eq_true hok) rfl (fun ls' hl' => kf _ _ _ _ h _ _ _ (hI.loc (am_lh_set1 (v := .ref x) hl')))
  · rename_i n he
    simp only [am_okI, he] at hok
    obtain ⟨x, q, rfl, h⟩ := am_pR_some h
    exact lv_astore hx hb (dd _ he rfl) (am_lv_has hI.2.2.2.1) (Nat.le_of_ble_eq_true hok) rfl (fun ls' hl' => kf _ _ _ _ h _ _ _ (hI.loc (am_lh_set1 (v := .ref x) hl')))
  · rename_i n z he
    simp only [am_okI, he] at hok
    obtain ⟨x, hv, h⟩ := am_isI_some h
    obtain ⟨j, hj⟩ := List.getElem?_of_mem (am_lv_mem (ad := ad) hv (fun _ z => by cases z))
    exact lv_iinc hx hb (dd _ he rfl) (am_lv_has hI.2.2.2.1) hj rfl (Nat.le_of_ble_eq_true hok) rfl (fun ls' hl' => kf _ _ _ _ h _ _ _ (hI.loc (am_lh_set1 (v := .int (x + Int32.ofInt z)) hl')))
  · rename_i he; obtain ⟨x, y, q, rfl, h⟩ := am_p2_some h; exact lv_iadd hx hb (dd _ he rfl) (kf _ _ _ _ h _ _ _ hI)
  · rename_i he; obtain ⟨x, y, q, rfl, h⟩ := am_p2_some h; exact lv_isub hx hb (dd _ he rfl) (kf _ _ _ _ h _ _ _ hI)
  · rename_i he; obtain ⟨x, y, q, rfl, h⟩ := am_p2_some h; exact lv_imul hx hb (dd _ he rfl) (kf _ _ _ _ h _ _ _ hI)
  · rename_i he; obtain ⟨x, y, q, rfl, h⟩ := am_p2_some h; exact lv_iand hx hb (dd _ he rfl) (kf _ _ _ _ h _ _ _ hI)
  · rename_i he; obtain ⟨x, y, q, rfl, h⟩ := am_p2_some h; exact lv_ior hx hb (dd _ he rfl) (kf _ _ _ _ h _ _ _ hI)
  · rename_i he; obtain ⟨x, y, q, rfl, h⟩ := am_p2_some h; exact lv_ixor hx hb (dd _ he rfl) (kf _ _ _ _ h _ _ _ hI)
  · rename_i he; obtain ⟨x, y, q, rfl, h⟩ := am_p2_some h; exact lv_ishl hx hb (dd _ he rfl) (kf _ _ _ _ h _ _ _ hI)
  · rename_i he; obtain ⟨x, y, q, rfl, h⟩ := am_p2_some h; exact lv_ishr hx hb (dd _ he rfl) (kf _ _ _ _ h _ _ _ hI)
  · rename_i he; obtain ⟨x, y, q, rfl, h⟩ := am_p2_some h; exact lv_iushr hx hb (dd _ he rfl) rfl (kf _ _ _ _ h _ _ _ hI)
  · rename_i he; obtain ⟨x, y, q, rfl, h⟩ := am_p2_some h; obtain ⟨hy, h⟩ := am_ite_none h; exact lv_idiv hx hb (dd _ he rfl) hy (kf _ _ _ _ h _ _ _ hI)
  · rename_i he; obtain ⟨x, y, q, rfl, h⟩ := am_p2_some h; obtain ⟨hy, h⟩ := am_ite_none h; exact lv_irem hx hb (dd _ he rfl) hy (kf _ _ _ _ h _ _ _ hI)
  · rename_i he; obtain ⟨x, q, rfl, h⟩ := am_p1_some h; exact lv_ineg hx hb (dd _ he rfl) (kf _ _ _ _ h _ _ _ hI)
  · rename_i he; obtain ⟨x, y, q, rfl, h⟩ := am_p2L_some h; exact lv_ladd hx hb (dd _ he rfl) (kf _ _ _ _ h _ _ _ hI)
  · rename_i he; obtain ⟨x, y, q, rfl, h⟩ := am_p2L_some h; exact lv_lsub hx hb (dd _ he rfl) (kf _ _ _ _ h _ _ _ hI)
  · rename_i he; obtain ⟨x, y, q, rfl, h⟩ := am_p2L_some h; exact lv_lmul hx hb (dd _ he rfl) (kf _ _ _ _ h _ _ _ hI)
  · rename_i he; obtain ⟨x, y, q, rfl, h⟩ := am_p2L_some h; exact lv_land hx hb (dd _ he rfl) (kf _ _ _ _ h _ _ _ hI)
  · rename_i he; obtain ⟨x, y, q, rfl, h⟩ := am_p2L_some h; exact lv_lor hx hb (dd _ he rfl) (kf _ _ _ _ h _ _ _ hI)
  · rename_i he; obtain ⟨x, y, q, rfl, h⟩ := am_p2L_some h; obtain ⟨hy, h⟩ := am_ite_none h; exact lv_ldiv hx hb (dd _ he rfl) hy (kf _ _ _ _ h _ _ _ hI)
  · rename_i he; obtain ⟨x, y, q, rfl, h⟩ := am_p2L_some h; obtain ⟨hy, h⟩ := am_ite_none h; exact lv_lrem hx hb (dd _ he rfl) hy (kf _ _ _ _ h _ _ _ hI)
  · rename_i he; obtain ⟨y, q, rfl, h⟩ := am_p1_some h; obtain ⟨x, q, rfl, h⟩ := am_p1L_some h; exact lv_lshl hx hb (dd _ he rfl) rfl (kf _ _ _ _ h _ _ _ hI)
  · rename_i he; obtain ⟨y, q, rfl, h⟩ := am_p1_some h; obtain ⟨x, q, rfl, h⟩ := am_p1L_some h; exact lv_lushr hx hb (dd _ he rfl) rfl (kf _ _ _ _ h _ _ _ hI)
  · rename_i he; obtain ⟨x, y, q, rfl, h⟩ := am_p2L_some h; exact W.lcmp hx hb (dd _ he rfl) (kf _ _ _ _ h _ _ _ hI)
  · rename_i he; obtain ⟨x, q, rfl, h⟩ := am_p1_some h; exact lv_i2l hx hb (dd _ he rfl) rfl (kf _ _ _ _ h _ _ _ hI)
  · rename_i he; obtain ⟨x, q, rfl, h⟩ := am_p1L_some h; exact lv_l2i hx hb (dd _ he rfl) rfl (kf _ _ _ _ h _ _ _ hI)
  · rename_i he; obtain ⟨x, q, rfl, h⟩ := am_p1_some h; exact lv_i2c hx hb (dd _ he rfl) rfl (kf _ _ _ _ h _ _ _ hI)
  · rename_i he
    split at h
    · obtain ⟨hc, h⟩ := am_ite_some h
      exact lv_dup hx hb (dd _ he rfl) ((am_tv_cat ad _).trans hc) (kf _ _ _ _ h _ _ _ hI)
    · cases h
  · rename_i he
    split at h
    · obtain ⟨⟨hc, hc2⟩, h⟩ := am_ite_some h
      exact lv_dup2_11 hx hb (dd _ he rfl) ((am_tv_cat ad _).trans hc) ((am_tv_cat ad _).trans hc2) (kf _ _ _ _ h _ _ _ hI)
    · cases h
  · rename_i he
    split at h
    · obtain ⟨⟨hc, hc2⟩, h⟩ := am_ite_some h
      exact lv_dup_x1 hx hb (dd _ he rfl) ((am_tv_cat ad _).trans hc) ((am_tv_cat ad _).trans hc2) (kf _ _ _ _ h _ _ _ hI)
    · cases h
  · rename_i he
    split at h
    · obtain ⟨hc, h⟩ := am_ite_some h
      exact lv_pop hx hb (dd _ he rfl) ((am_tv_cat ad _).trans hc) (kf _ _ _ _ h _ _ _ hI)
    · cases h
  · rename_i cd off he; simp only [am_okI, he, decide_eq_true_eq] at hok; obtain ⟨x, q, rfl, h⟩ := am_p1_some h; exact am_s_cnd0 C kf hI (dd _ he rfl) hok h
  · rename_i cd off he; simp only [am_okI, he, decide_eq_true_eq] at hok; obtain ⟨x, y, q, rfl, h⟩ := am_p2_some h; exact am_s_cnd C kf hI (dd _ he rfl) hok h
  · rename_i off he; simp only [am_okI, he, decide_eq_true_eq] at hok; exact lv_goto hx hb (dd _ he rfl) hok (kf _ _ _ _ h _ _ _ hI)
  · rename_i d' lo hi offs he
    simp only [am_okI, he, Bool.and_eq_true, decide_eq_true_eq, List.all_eq_true] at hok
    obtain ⟨x, q, rfl, h⟩ := am_p1_some h
    rw [he] at hdec
    exact am_s_tab C kf hI hdec hok.1.1.1.1 (fun o ho => hok.1.1.1.2 o ho) hok.1.1.2 hok.1.2 hok.2 0 _ rfl (fun j hj => by omega) (by rw [show lo + ((0 : Nat) : Int) = lo by omega]; exact h)
  · rename_i d' ps he
    simp only [am_okI, he, Bool.and_eq_true, decide_eq_true_eq] at hok
    obtain ⟨x, q, rfl, h⟩ := am_p1_some h
    rw [he] at hdec
    refine am_s_look C kf hI hdec hok.1.1 hok.2 _ (fun o ho => ?_) rfl h
    have := List.all_eq_true.mp hok.1.2 o ho
    simp only [Bool.and_eq_true, decide_eq_true_eq] at this
    exact ⟨this.1.1, this.1.2, this.2⟩
  · rename_i idx he
    simp only [am_okI, he, Bool.and_eq_true] at hok
    obtain ⟨k, q, rfl, h⟩ := am_pR_some h
    obtain ⟨ha, h⟩ := am_ite_some h
    rw [← Nat.eq_of_beq_eq_true hok.1.1.2] at h
    exact am_s_get C hK kf hI (dd _ he rfl) hok.1.1.1 (Nat.le_of_ble_eq_true hok.1.2) (Nat.le_of_ble_eq_true hok.2) ha h
  · rename_i idx he
    simp only [am_okI, he, Bool.and_eq_true, Bool.or_eq_true, Bool.not_eq_true'] at hok
    obtain ⟨v, k, q, rfl, h⟩ := am_pVR_some h
    obtain ⟨ha, h⟩ := am_ite_some h
    rw [← Nat.eq_of_beq_eq_true hok.1.1.1.2] at h
    exact am_s_pf C hK kf hI (dd _ he rfl) hok.1.1.1.1 (Nat.le_of_ble_eq_true hok.1.1.2) (Nat.le_of_ble_eq_true hok.1.2) ha (hok.2.imp id (fun z => ⟨Nat.eq_of_beq_eq_true z.1, Nat.eq_of_beq_eq_true z.2⟩)) h
  · rename_i he
    obtain ⟨i, k, q, rfl, h1⟩ := am_pIR_some h
    by_cases ha : am_at M k 20
    · rw [if_pos ha] at h1
      obtain ⟨hi, h2⟩ := am_ite_some h1
      exact am_s_iald C hK kf hI (dd _ he rfl) ha hi h2
    · rw [if_neg ha] at h1
      obtain ⟨⟨rfl, hi⟩, h2⟩ := am_ite_some h1
      exact am_s_ro C hRO kf hI (dd _ he rfl) hi h2
  · rename_i he
    obtain ⟨i, k, q, rfl, h⟩ := am_pIR_some h
    obtain ⟨ha, h⟩ := am_ite_some h
    obtain ⟨hi, h⟩ := am_ite_some h
    exact am_s_lald C hK kf hI (dd _ he rfl) ha hi h
  · rename_i he
    obtain ⟨i, k, q, rfl, h⟩ := am_pIR_some h
    obtain ⟨ha, h⟩ := am_ite_some h
    obtain ⟨hi, h⟩ := am_ite_some h
    exact am_s_zald C hK kf hI (dd _ he rfl) ha hi h
  · rename_i he
    simp only [am_okI, he, Bool.and_eq_true] at hok
    obtain ⟨i, k, q, rfl, h⟩ := am_pIR_some h
    obtain ⟨ha, h⟩ := am_ite_some h
    obtain ⟨hi, h⟩ := am_ite_some h
    exact am_s_aald C hK kf hI (dd _ he rfl) (Nat.le_of_ble_eq_true hok.1) (Nat.le_of_ble_eq_true hok.2) ha hi h
  · rename_i he
    obtain ⟨v, i, k, q, rfl, h⟩ := am_pVIR_some h
    obtain ⟨x, hv, h⟩ := am_isI_some h
    cases hv
    obtain ⟨ha, h⟩ := am_ite_some h
    obtain ⟨hi, h⟩ := am_ite_some h
    exact am_s_iast C hK kf hI (dd _ he rfl) ha hi h
  · rename_i he
    obtain ⟨v, i, k, q, rfl, h⟩ := am_pVIR_some h
    obtain ⟨x, hv, h⟩ := am_isL_some h
    cases hv
    obtain ⟨ha, h⟩ := am_ite_some h
    obtain ⟨hi, h⟩ := am_ite_some h
    exact am_s_last C hK kf hI (dd _ he rfl) ha hi h
  · rename_i he
    obtain ⟨v, i, k, q, rfl, h⟩ := am_pVIR_some h
    obtain ⟨x, hv, h⟩ := am_isI_some h
    cases hv
    obtain ⟨ha, h⟩ := am_ite_some h
    obtain ⟨⟨hi, hx01⟩, h⟩ := am_ite_some h
    exact am_s_zast C hK kf hI (dd _ he rfl) ha hi hx01 h
  · rename_i he
    simp only [am_okI, he, Bool.and_eq_true] at hok
    obtain ⟨v, i, k, q, rfl, h⟩ := am_pVIR_some h
    obtain ⟨x, hv, h⟩ := am_isR_some h
    cases hv
    obtain ⟨⟨ha, hxa⟩, h⟩ := am_ite_some h
    obtain ⟨hi, h⟩ := am_ite_some h
    rw [← Nat.eq_of_beq_eq_true hok.2] at hxa
    exact am_s_aast C hK kf hI (dd _ he rfl) (Nat.le_of_ble_eq_true hok.1.1) (Nat.le_of_ble_eq_true hok.1.2) ha hxa hi h
  · rename_i he
    obtain ⟨k, q, rfl, h⟩ := am_pR_some h
    obtain ⟨⟨h1, h2, h3⟩, h⟩ := am_ite_some h
    exact am_s_alen C hK kf hI (dd _ he rfl) h1 h2 h3 h
  · rename_i idx he
    simp only [am_okI, he, Bool.and_eq_true] at hok
    rw [Nat.eq_of_beq_eq_true hok.1.2] at h
    exact am_s_new C hK hA hal hR kf hI (dd _ he rfl) hok.1.1 (Nat.le_of_ble_eq_true hok.2) (hgf _ _ _ _ h) h
  · rename_i t he
    simp only [am_okI, he, Bool.and_eq_true, Bool.or_eq_true, decide_eq_true_eq] at hok
    obtain ⟨n, q, rfl, h⟩ := am_p1_some h
    obtain ⟨hn, h⟩ := am_ite_none h
    exact am_s_newa C hK hA hal hR kf hI (dd _ he rfl) (by
      rcases hok with (z | z) | z
      · exact Or.inl ⟨z.1, Nat.eq_of_beq_eq_true z.2⟩
      · exact Or.inr (Or.inl ⟨z.1, Nat.eq_of_beq_eq_true z.2⟩)
      · exact Or.inr (Or.inr ⟨z.1, Nat.eq_of_beq_eq_true z.2⟩)) (fun z => hn (Or.inl z)) (am_clamp (b := 100000) (fun z => hn (Or.inr z)) (by omega)) (hgf _ _ _ _ h) h
  · rename_i idx he
    simp only [am_okI, he, Bool.and_eq_true] at hok
    obtain ⟨n, q, rfl, h⟩ := am_p1_some h
    obtain ⟨hn, h⟩ := am_ite_none h
    exact am_s_anew C hK hRO hA hal hR kf hI (dd _ he rfl) hok.1.1 (Nat.le_of_ble_eq_true hok.1.2) (Nat.le_of_ble_eq_true hok.2) (fun z => hn (Or.inl z)) (am_clamp (b := 100000) (fun z => hn (Or.inr z)) (by omega)) (hgf _ _ _ _ h) h
  · rename_i idx n2 he
    simp only [am_okI, he, Bool.and_eq_true] at hok
    obtain ⟨n, k, q, rfl, h⟩ := am_p2_some h
    obtain ⟨hn, h⟩ := am_ite_none h
    have hd := dd _ he rfl
    rw [Nat.eq_of_beq_eq_true hok.1.2, Nat.eq_of_beq_eq_true hok.2] at hd
    exact am_s_multi C hK hRO hA hal hR kf hI hd (Nat.eq_of_beq_eq_true hok.1.1) (fun z => hn (Or.inl z)) (fun z => hn (Or.inr (Or.inr (Or.inl z)))) (am_clamp (b := 1000) (fun z => hn (Or.inr (Or.inl z))) (by omega)) (am_clamp (b := 1000) (fun z => hn (Or.inr (Or.inr (Or.inr z)))) (by omega)) (hgf _ _ _ _ h) h
  · rename_i idx he
    simp only [am_okI, he, Bool.and_eq_true, Bool.or_eq_true] at hok
    rcases hok with (z | z) | z
    · have hc := Nat.eq_of_beq_eq_true z.1.1
      unfold am_inv at h
      rw [hc] at h
      obtain ⟨i, k, q, rfl, h4⟩ := am_pIR_some h
      obtain ⟨⟨rfl, h1, h2, h3⟩, h5⟩ := am_ite_some h4
      exact am_s_charAt C hRO hR kf hI (dd _ he rfl) (Nat.eq_of_beq_eq_true z.1.2) (Nat.eq_of_beq_eq_true z.2) h2 h1 h3 (hgf _ _ _ _ h5) h5
    · have hc := Nat.eq_of_beq_eq_true z.1.1
      unfold am_inv at h
      rw [hc] at h
      obtain ⟨i, k, q, rfl, h4⟩ := am_pIR_some h
      obtain ⟨⟨rfl, h3⟩, h5⟩ := am_ite_some h4
      exact am_s_indexOf C hRO hR kf hI (dd _ he rfl) (Nat.eq_of_beq_eq_true z.1.2) (Nat.eq_of_beq_eq_true z.2) h3 (hgf _ _ _ _ h5) h5
    · obtain ⟨⟨⟨⟨z1, z2⟩, z3⟩, z4⟩, z5⟩ := z
      have ha := Nat.le_of_ble_eq_true z5
      have hown := Nat.eq_of_beq_eq_true z3
      obtain ⟨k, as, q, v, M', rfl, hn, hk, hc, hgv, h⟩ := am_inv_some (by rw [hown]; exact (am_yc5 _ ha).1) h
      rw [hown] at hk
      rw [Nat.eq_of_beq_eq_true z2] at hn
      have := am_s_callV C hK hRO hA hal hR kf hI (dd _ he rfl) ha (Nat.eq_of_beq_eq_true z4) (am_MLin z1) (by omega) hk hc (hg _ _ _ _ _ ha hgv).1 (hg _ _ _ _ _ ha hgv).2 (hgf _ _ _ _ h) h
      rw [List.map_append, List.map_cons, List.map_reverse]
      exact this
  · rename_i idx he
    simp only [am_okI, he, Bool.and_eq_true, Bool.or_eq_true] at hok
    rcases hok with z | z
    · obtain ⟨n, dp, b, sp, a, q, rfl, ⟨h1, h2, h3, h4, h5, h6, h7, h8, h9⟩, h10⟩ := am_inv_c (Nat.eq_of_beq_eq_true z.1) h
      exact am_s_copy C hK kf hI (dd _ he rfl) z.2 h1 h2 h4 h5 h6 h7 h8 h9 h10
    · obtain ⟨⟨⟨⟨z1, z2⟩, z3⟩, z4⟩, z5⟩ := z
      have ha := Nat.le_of_ble_eq_true z5
      obtain ⟨as, q, v, M', rfl, hn, hc, hgv, h⟩ := am_inv_s (Nat.eq_of_beq_eq_true z3) h
      rw [Nat.eq_of_beq_eq_true z2] at hn
      have := am_s_callS C hK hRO hA hal hR kf hI (dd _ he rfl) ha (Nat.eq_of_beq_eq_true z4) (am_MLin z1) hn hc (hg _ _ _ _ _ ha hgv).1 (hg _ _ _ _ _ ha hgv).2 (hgf _ _ _ _ h) h
      rw [List.map_append, List.map_reverse]
      exact this
  · rename_i idx he
    simp only [am_okI, he, Bool.and_eq_true, Bool.or_eq_true] at hok
    rcases hok with z | z
    · have hc := Nat.eq_of_beq_eq_true z.1
      unfold am_inv at h
      rw [hc] at h
      obtain ⟨k, q, rfl, h⟩ := am_pR_some h
      obtain ⟨h1, h⟩ := am_ite_some h
      exact am_s_obj C kf hI (dd _ he rfl) z.2 h1 h
    · obtain ⟨⟨⟨⟨z1, z2⟩, z3⟩, z4⟩, z5⟩ := z
      have ha := Nat.le_of_ble_eq_true z5
      have hown := Nat.eq_of_beq_eq_true z3
      obtain ⟨k, as, q, v, M', rfl, hn, hk, hc, hgv, h⟩ := am_inv_some (by rw [hown]; exact (am_yc5 _ ha).1) h
      rw [Nat.eq_of_beq_eq_true z2] at hn
      have hsk := Nat.eq_of_beq_eq_true z4
      have := am_s_callI C hK hRO hA hal hR kf hI (dd _ he rfl) ha hsk (am_initrt _ ha hsk) (z1.imp am_MLin (fun w => am_MNin w hRO)) (by omega) hc (hg _ _ _ _ _ ha hgv).1 (hg _ _ _ _ _ ha hgv).2 (hgf _ _ _ _ h) h
      rw [List.map_append, List.map_cons, List.map_reverse]
      exact this
  · rename_i he
    split at h
    · rename_i x
      obtain ⟨hrk, h⟩ := am_ite_some h
      cases h
      subst hQ
      obtain ⟨-, -, hr, -, -, -, hlocks, -, hmi, -⟩ := C
      rcases hrk with z | ⟨z, hx01⟩
      · have hrt : meth.sig.returnType = some .int := by
          rw [hr]
          rcases am_rtk mi hmi with y | y | y | y
          · omega
          · exact y.2
          · omega
          · omega
        exact W.iret hx hb hrt (hpost _ rfl rfl) hfree (dd _ he rfl) hlocks
      · have hrt : meth.sig.returnType = some .boolean := by
          rw [hr]
          rcases am_rtk mi hmi with y | y | y | y
          · omega
          · omega
          · exact y.2
          · omega
        exact W.zret hx hb hrt (by rcases hx01 with rfl | rfl <;> rfl) (hpost _ rfl rfl) hfree (dd _ he rfl) hlocks
    · cases h
  · rename_i he
    split at h
    · rename_i x
      obtain ⟨hrk, h⟩ := am_ite_some h
      cases h
      subst hQ
      obtain ⟨-, -, hr, -, -, -, hlocks, -, hmi, -⟩ := C
      have hrt : meth.sig.returnType = some .long := by
        rw [hr]
        rcases am_rtk mi hmi with y | y | y | y
        · omega
        · omega
        · omega
        · exact y.2
      exact W.lret hx hb hrt (hpost _ rfl rfl) hfree (dd _ he rfl) hlocks
    · cases h
  · rename_i he
    split at h
    · obtain ⟨hrk, h⟩ := am_ite_some h
      cases h
      subst hQ
      obtain ⟨-, -, hr, -, -, -, hlocks, -, hmi, -⟩ := C
      have hrt : meth.sig.returnType = none := by
        rw [hr]
        rcases am_rtk mi hmi with y | y | y | y
        · exact y.2
        · omega
        · omega
        · omega
      exact W.vret hx hb hrt (hpost _ rfl rfl) hfree (dd _ he rfl) hlocks
    · cases h
  · cases h
end SMN
