/-! NEW CELLS are sound. -/
theorem am_CLin {own idx a : Nat} (h : (am_CLt.any fun q => Nat.beq q.1 own && Nat.beq q.2.1 idx && Nat.beq q.2.2.1 a) = true) {args : Array Value} {s : State} (hts : ∀ w ∈ am_W, w.before args s = true) : (Cond.classLink (am_cn own) idx (am_cn a)).before args s = true := by
  obtain ⟨x, hx, h⟩ := List.any_eq_true.mp h
  simp only [Bool.and_eq_true] at h
  have := am_CL x hx
  rw [Nat.eq_of_beq_eq_true h.1.1, Nat.eq_of_beq_eq_true h.1.2, Nat.eq_of_beq_eq_true h.2] at this
  exact am_word hts this rfl
def am_nsi (c : Nat) : Nat := ([441, 271, 256, 45, 288, 464, 37, 353, 478, 31, 306, 23, 1222] : List Nat).getD c 0
theorem am_NS : ∀ c, c < 13 → tables_1[am_nsi c]? = some (Cond.instantiable (am_cn c) (am_nf c)) := by decide +kernel
theorem am_wAI : tables_1[69]? = some (Cond.arrayClass .int) := by decide +kernel
theorem am_wAL : tables_1[1541]? = some (Cond.arrayClass .long) := by decide +kernel
theorem am_wAZ : tables_1[1542]? = some (Cond.arrayClass .boolean) := by decide +kernel
theorem am_wMA : tables_1[42]? = some (Cond.classLink "TyreWorks$Plan" 15 ("[" ++ (FieldType.array .int).toString)) := by decide +kernel
section SAL
variable {p : Program} {l : Launch} {e : Env} {R : Room} {s : State} {m : MethodId} {args : Array Value} {below : List Frame} {meth : Method} {c : Code} {D : va_G} {cid : Nat → ClassId} {ad : Nat → Nat} {A : Nat → Prop} {Q : State → Prop}
variable {mi pc : Nat} {f : Nat → List Value → List Value → am_M → am_O} {L st : List Value} {M M' M0 M1 : am_M} {r r0 : Option Value} {H : Heap} {locs : List Loc} {ls : Array Slot} {k d : Nat} {q : List Value}
theorem am_alad (hal : ∀ k, M0.2.2.2.2.1 ≤ k → k < M1.2.2.2.2.1 → ad k = s.heap.size + (k - M0.2.2.2.2.1)) (hI : am_I D cid ad A s mi M0 M H locs ls L) (hz : H.size ≤ s.heap.size + (M.2.2.2.2.1 - M0.2.2.2.2.1)) {kd n : Nat} (hg1 : am_gw (am_al M kd n) M1) : ad M.2.2.2.2.1 = H.size := by
  have h1 : M.2.2.2.2.1 + 1 ≤ M1.2.2.2.2.1 := hg1.1
  have h2 := hI.2.2.2.2.2.2.1
  have h3 := hI.2.2.2.2.2.1
  rw [hal _ h2 h1]
  omega
theorem am_alcnt (hI : am_I D cid ad A s mi M0 M H locs ls L) (kd n : Nat) : (am_al M kd n).2.2.2.2.1 - M0.2.2.2.2.1 = M.2.2.2.2.1 - M0.2.2.2.2.1 + 1 ∧ (am_al M kd n).2.2.2.2.2 - M0.2.2.2.2.2 = M.2.2.2.2.2 - M0.2.2.2.2.2 + n := by
  have h2 := hI.2.2.2.2.2.2.1
  have h3 := hI.2.2.2.2.2.2.2
  show M.2.2.2.2.1 + 1 - M0.2.2.2.2.1 = _ ∧ M.2.2.2.2.2 + n - M0.2.2.2.2.2 = _
  omega
theorem am_alfit (hR : am_Rm R d M0 M1) (hI : am_I D cid ad A s mi M0 M H locs ls L) {kd n : Nat} (hg1 : am_gw (am_al M kd n) M1) : M.2.2.2.2.1 - M0.2.2.2.2.1 + 1 ≤ R.cells ∧ M.2.2.2.2.2 - M0.2.2.2.2.2 + n ≤ R.slots := by
  rw [hR.2.2.1, hR.2.2.2]
  have h2 := hI.2.2.2.2.2.2.1
  have h3 := hI.2.2.2.2.2.2.2
  have h4 : M.2.2.2.2.1 + 1 ≤ M1.2.2.2.2.1 := hg1.1
  have h5 : M.2.2.2.2.2 + n ≤ M1.2.2.2.2.2 := hg1.2
  omega
theorem am_alS (kd n : Nat) : (am_al M kd n).2.2.2.1 M.2.2.2.2.1 = (kd, n) := by simp [am_al]
theorem am_alI (kd n : Nat) : (am_al M kd n).1 M.2.2.2.2.1 = fun _ => 0 := by funext j; simp [am_al, am_row]
theorem am_alL (kd n : Nat) : (am_al M kd n).2.1 M.2.2.2.2.1 = fun _ => 0 := by funext j; simp [am_al, am_row]
theorem am_alR (kd n : Nat) : (am_al M kd n).2.2.1 M.2.2.2.2.1 = fun _ => none := by funext j; simp [am_al, am_row]
theorem am_s_newa (C : am_Cx p R s m args meth c mi) (hK : va_K D vwCl (am_tys cid) s) (hA : ∀ q, s.heap.size ≤ q → A q) (hal : ∀ k, M0.2.2.2.2.1 ≤ k → k < M1.2.2.2.2.1 → ad k = s.heap.size + (k - M0.2.2.2.2.1)) (hR : am_Rm R d M0 M1) (kf : am_kf p l e R s m args below meth c D cid ad A Q mi f M0 M1 r) (hI : am_I D cid ad A s mi M0 M H locs ls L)
    {t : ArrayType} {kd : Nat} {n : Int32} (hd : decode (am_c mi) pc = .ok (.newarray t, 2)) (ht : (t = .int ∧ kd = 20) ∨ (t = .long ∧ kd = 21) ∨ (t = .boolean ∧ kd = 22)) (hn : ¬ n < 0) (hn2 : n.toNatClampNeg ≤ 100000) (hg1 : am_gw (am_al M kd n.toNatClampNeg) M1) (h : f (pc + 2) L (.ref M.2.2.2.2.1 :: q) (am_al M kd n.toNatClampNeg) = some (r, M1)) :
    W p l e R s m args below meth c H locs (M.2.2.2.2.1 - M0.2.2.2.2.1) (M.2.2.2.2.2 - M0.2.2.2.2.2) Q (F0 m pc ls (.int n :: q.map (am_tv ad))) := by
  refine am_eqW (fun hz => ?_)
  have had := am_alad hal hI hz hg1
  have hcnt := am_alcnt hI kd n.toNatClampNeg
  have hfit := am_alfit hR hI hg1
  obtain ⟨hx, hb, -, -, hown, hts, -⟩ := C
  have kk : ∀ (H' : Heap), va_at D vwCl (H.size, am_wE cid ad (am_al M kd n.toNatClampNeg) M.2.2.2.2.1) H' → H'.size = H.size + 1 → (∀ q, q < H.size → H'[q]? = H[q]?) → W p l e R s m args below meth c H' locs (M.2.2.2.2.1 - M0.2.2.2.2.1 + 1) (M.2.2.2.2.2 - M0.2.2.2.2.2 + n.toNatClampNeg) Q (F0 m (pc + 2) ls (.ref H.size :: q.map (am_tv ad))) := by
    intro H' h1 h2 h3
    have hk := kf _ _ _ _ h _ _ _ (hI.new hA (by rcases ht with ⟨-, rfl⟩ | ⟨-, rfl⟩ | ⟨-, rfl⟩ <;> exact Or.inr ⟨by omega, by omega⟩) h2 h3 had h1)
    rw [hcnt.1, hcnt.2] at hk
    have e : (Value.ref M.2.2.2.2.1 :: q).map (am_tv ad) = .ref H.size :: q.map (am_tv ad) := by rw [List.map_cons]; show Value.ref (ad _) :: _ = _; rw [had]
    rw [e] at hk
    exact hk
  rcases ht with ⟨rfl, rfl⟩ | ⟨rfl, rfl⟩ | ⟨rfl, rfl⟩
  · refine va_newaK hx hb (am_word hts am_wAI rfl) rfl hd rfl hn rfl (by show _ * 4 ≤ _; omega) hfit.1 hfit.2 rfl (fun H' cA e1 z1 o1 hAr hNm => kk H' ?_ z1 o1)
    rw [am_wE_i (by rw [am_alS]), am_alS, am_alI]
    have hc : cA = cid 20 := Option.some.inj (hNm.symm.trans (hK.2 0 _ rfl).2)
    subst hc
    exact e1
  · refine va_newaK hx hb (am_word hts am_wAL rfl) rfl hd rfl hn rfl (by show _ * 8 ≤ _; omega) hfit.1 hfit.2 rfl (fun H' cA e1 z1 o1 hAr hNm => kk H' ?_ z1 o1)
    rw [am_wE_l (by rw [am_alS]), am_alS, am_alL]
    have hc : cA = cid 21 := Option.some.inj (hNm.symm.trans (hK.2 1 _ rfl).2)
    subst hc
    exact e1
  · refine va_newaK hx hb (am_word hts am_wAZ rfl) rfl hd rfl hn rfl (by show _ * 1 ≤ _; omega) hfit.1 hfit.2 rfl (fun H' cA e1 z1 o1 hAr hNm => kk H' ?_ z1 o1)
    rw [am_wE_z (by rw [am_alS]), am_alS, am_alI]
    have hc : cA = cid 22 := Option.some.inj (hNm.symm.trans (hK.2 2 _ rfl).2)
    subst hc
    exact e1
theorem am_defv (ad : Nat → Nat) {M : am_M} (k c j : Nat) (hc : c < 13) (hj : j < am_nf c) (h1 : M.1 k = fun _ => 0) (h2 : M.2.1 k = fun _ => 0) (h3 : M.2.2.1 k = fun _ => none) : defaultValue (am_fty c j) = am_tv ad (am_gf M k j (am_fk c j)) := by
  have := am_fkall c hc j hj
  unfold am_fkOk at this
  unfold am_gf
  rw [h1, h2, h3]
  split at this
  · rename_i hh; rw [hh, Nat.eq_of_beq_eq_true this]; rfl
  · rename_i hh; rw [hh, Nat.eq_of_beq_eq_true this]; rfl
  · rename_i hh; rw [hh, Nat.eq_of_beq_eq_true this]; rfl
  · rename_i hh; rw [hh, Nat.eq_of_beq_eq_true this]; rfl
  · rename_i hh; rw [hh, Nat.eq_of_beq_eq_true this]; rfl
  · cases this
theorem am_s_new (C : am_Cx p R s m args meth c mi) (hK : va_K D vwCl (am_tys cid) s) (hA : ∀ q, s.heap.size ≤ q → A q) (hal : ∀ k, M0.2.2.2.2.1 ≤ k → k < M1.2.2.2.2.1 → ad k = s.heap.size + (k - M0.2.2.2.2.1)) (hR : am_Rm R d M0 M1) (kf : am_kf p l e R s m args below meth c D cid ad A Q mi f M0 M1 r) (hI : am_I D cid ad A s mi M0 M H locs ls L)
    {idx a : Nat} (hd : decode (am_c mi) pc = .ok (.new idx, 3)) (hl : (am_CLt.any fun q => Nat.beq q.1 (am_own mi) && Nat.beq q.2.1 idx && Nat.beq q.2.2.1 a) = true) (ha : a < 13) (hg1 : am_gw (am_al M a (am_nf a)) M1) (h : f (pc + 3) L (.ref M.2.2.2.2.1 :: q) (am_al M a (am_nf a)) = some (r, M1)) :
    W p l e R s m args below meth c H locs (M.2.2.2.2.1 - M0.2.2.2.2.1) (M.2.2.2.2.2 - M0.2.2.2.2.2) Q (F0 m pc ls (q.map (am_tv ad))) := by
  refine am_eqW (fun hz => ?_)
  have had := am_alad hal hI hz hg1
  have hcnt := am_alcnt hI a (am_nf a)
  have hfit := am_alfit hR hI hg1
  obtain ⟨hx, hb, -, -, hown, hts, -⟩ := C
  have hKn := hK.1 a _ (am_cl a ha)
  refine W.newcK hx hb hown (am_CLin hl hts) (am_word hts (am_NS a ha) rfl) (am_word hts (am_NI a (by omega)) rfl) rfl hd hfit.1 hfit.2 hKn.2.1 rfl (fun H' kC hkC e1 z1 o1 => ?_)
  have hat : va_at D vwCl (H.size, am_wE cid ad (am_al M a (am_nf a)) M.2.2.2.2.1) H' := by
    rw [am_wE_o (ci := a) (by rw [am_alS]) ha, am_alS]
    refine ⟨_, am_cl a ha, (u_born (am_fty a) hts (am_uws a ha) hKn hkC e1 (am_tyok a ha)).to (fun j hj => ?_)⟩
    rw [am_defv ad (M := am_al M a (am_nf a)) M.2.2.2.2.1 a j ha hj (am_alI _ _) (am_alL _ _) (am_alR _ _)]
    have hj2 : j < am_nf a := hj
    simp [vp_V, hj2]
  have hk := kf _ _ _ _ h _ _ _ (hI.new hA (Or.inl ⟨ha, rfl⟩) z1 o1 had hat)
  rw [hcnt.1, hcnt.2] at hk
  have e : (Value.ref M.2.2.2.2.1 :: q).map (am_tv ad) = .ref H.size :: q.map (am_tv ad) := by rw [List.map_cons]; show Value.ref (ad _) :: _ = _; rw [had]
  rw [e] at hk
  exact hk
theorem am_s_anew (C : am_Cx p R s m args meth c mi) (hK : va_K D vwCl (am_tys cid) s) (hRO : am_RO ad A s s.heap) (hA : ∀ q, s.heap.size ≤ q → A q) (hal : ∀ k, M0.2.2.2.2.1 ≤ k → k < M1.2.2.2.2.1 → ad k = s.heap.size + (k - M0.2.2.2.2.1)) (hR : am_Rm R d M0 M1) (kf : am_kf p l e R s m args below meth c D cid ad A Q mi f M0 M1 r) (hI : am_I D cid ad A s mi M0 M H locs ls L)
    {idx kd : Nat} {n : Int32} (hd : decode (am_c mi) pc = .ok (.anewarray idx, 3)) (hl : (am_CLt.any fun q => Nat.beq q.1 (am_own mi) && Nat.beq q.2.1 idx && Nat.beq q.2.2.1 (am_el kd)) = true) (h1 : 23 ≤ kd) (h2 : kd ≤ 26) (hn : ¬ n < 0) (hn2 : n.toNatClampNeg ≤ 100000) (hg1 : am_gw (am_al M kd n.toNatClampNeg) M1) (h : f (pc + 3) L (.ref M.2.2.2.2.1 :: q) (am_al M kd n.toNatClampNeg) = some (r, M1)) :
    W p l e R s m args below meth c H locs (M.2.2.2.2.1 - M0.2.2.2.2.1) (M.2.2.2.2.2 - M0.2.2.2.2.2) Q (F0 m pc ls (.int n :: q.map (am_tv ad))) := by
  refine am_eqW (fun hz => ?_)
  have had := am_alad hal hI hz hg1
  have hcnt := am_alcnt hI kd n.toNatClampNeg
  have hfit := am_alfit hR hI hg1
  obtain ⟨hx, hb, -, -, hown, hts, -⟩ := C
  have hao := hRO.2.2.2.2.2.2
  have key : ∀ (Cn : String) (t0 : Nat), am_cn (am_el kd) = Cn → (am_tys cid)[t0]? = some (cid kd, .object Cn) → .object Cn ∈ am_aov → W p l e R s m args below meth c H locs (M.2.2.2.2.1 - M0.2.2.2.2.1) (M.2.2.2.2.2 - M0.2.2.2.2.2) Q (F0 m pc ls (.int n :: q.map (am_tv ad))) := by
    intro Cn t0 hC ht hm
    have hcl := am_CLin hl hts
    rw [hC] at hcl
    refine W.anew hx hb hown hcl (va_AO.use (hao _ hm)) rfl hd rfl hn (by omega) hfit.1 hfit.2 (fun cA kA comp f1 f2 f3 f4 => ?_)
    have hc : cA = cid kd := by
      obtain ⟨kA', comp', g1, g2, g3, g4⟩ := (hK.2 t0 _ ht).2
      exact Option.some.inj (f1.symm.trans g4)
    subst hc
    have z1 : (H.push ({ cls := cid kd, slots := Array.replicate n.toNatClampNeg .null, vm := .none } : Cell)).size = H.size + 1 := Array.size_push _
    have e1 : (H.push ({ cls := cid kd, slots := Array.replicate n.toNatClampNeg .null, vm := .none } : Cell))[H.size]? = some (arrV (cid kd) n.toNatClampNeg (fun _ => .null)) := by rw [Array.getElem?_push_size, ← arrV_new]
    have o1 : ∀ q : Nat, q < H.size → (H.push ({ cls := cid kd, slots := Array.replicate n.toNatClampNeg .null, vm := .none } : Cell))[q]? = H[q]? := fun q hq => by rw [Array.getElem?_push, if_neg (Nat.ne_of_lt hq)]
    have hat : va_at D vwCl (H.size, am_wE cid ad (am_al M kd n.toNatClampNeg) M.2.2.2.2.1) (H.push ({ cls := cid kd, slots := Array.replicate n.toNatClampNeg .null, vm := .none } : Cell)) := by
      rw [am_wE_q (kd := kd) (by rw [am_alS]) h1, am_alS, am_alR]
      exact e1
    have hk := kf _ _ _ _ h _ _ _ (hI.new hA (Or.inr ⟨by omega, by omega⟩) z1 o1 had hat)
    rw [hcnt.1, hcnt.2] at hk
    have e : (Value.ref M.2.2.2.2.1 :: q).map (am_tv ad) = .ref H.size :: q.map (am_tv ad) := by rw [List.map_cons]; show Value.ref (ad _) :: _ = _; rw [had]
    rw [e] at hk
    exact hk
  rcases (show kd = 23 ∨ kd = 24 ∨ kd = 25 ∨ kd = 26 by omega) with rfl | rfl | rfl | rfl
  · exact key _ 3 rfl rfl (by decide)
  · exact key _ 4 rfl rfl (by decide)
  · exact key _ 5 rfl rfl (by decide)
  · exact key _ 6 rfl rfl (by decide)
end SAL
