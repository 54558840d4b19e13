/-! a method's context, and what stays outside its world -/
def am_Str (ad : Nat → Nat) (A : Nat → Prop) (U : State) (H : Heap) : Prop := vk_S 2 [192, 14] [am_txt 0, am_txt 1] (fun i => ad (1000000 + i)) (fun i => ad (1100000 + i)) A U H ∧ va_Z "java/lang/String" "COMPACT_STRINGS" "Z" (.int 1) A U H ∧ va_Zq "jdk/internal/util/Preconditions" "SIOOBE_FORMATTER" "Ljava/util/function/BiFunction;" A U H
def am_tx0 : String := "mix   ripe  stale part  of    takes wide  size  cures needs changepress mould lives order by    sheet splicerests bad   when  or    and   not   all   old   worn  at    kind  lay   min   max   "
def am_tx1 : String := ";<>=+-*/%()[],"
def am_aov : List FieldType := [.object "TyreWorks$Batch", .object "TyreWorks$Lot", .object "TyreWorks$Press", .object "TyreWorks$Tyre", .array .int]
theorem am_ao_moved {ty : FieldType} {u U : State} (hvm : u.vm.Alike U.vm) (h : (Cond.arrayOver ty).before #[] u = true) : (Cond.arrayOver ty).before #[] U = true := by
  have := Cond.arrayOver_setVmC (args := #[]) hvm ty
  rw [h] at this
  exact this
def am_RO (ad : Nat → Nat) (A : Nat → Prop) (U : State) (H : Heap) : Prop := va_T .int (ad 2000000) 9 (fun j => .int (am_ro j)) A U H ∧ va_Z "TyreWorks$Plan" "MOST_TOLD" "[I" (.ref (ad 2000000)) A U H ∧ vk_R "TyreWorks$Text" 29 am_tx0 (ad 1000000) U ∧ vk_R "TyreWorks$Text" 107 am_tx1 (ad 1000001) U ∧ am_Str ad A U H ∧ (∀ q ∈ am_MNt, va_Nw (.methodLinkNest (am_cn q.1) q.2.1 (am_y q.2.2.1) "TyreWorks") U) ∧ ∀ ty ∈ am_aov, (Cond.arrayOver ty).before #[] U = true
theorem am_Str.narrow {ad : Nat → Nat} {A B : Nat → Prop} {U : State} {H : Heap} (h : am_Str ad A U H) (hAB : ∀ q, B q → A q) : am_Str ad B U H := ⟨h.1.narrow hAB, h.2.1.narrow hAB, h.2.2.narrow hAB⟩
theorem am_Str.kept {ad : Nat → Nat} {A : Nat → Prop} {U : State} {H H1 : Heap} (h : am_Str ad A U H) (hq : ∀ a : Nat, a < H.size → ¬ A a → H1[a]? = H[a]?) : am_Str ad A U H1 := ⟨h.1.kept hq, h.2.1.kept hq, h.2.2.kept hq⟩
theorem am_Str.moved {ad : Nat → Nat} {A : Nat → Prop} {u U : State} {H : Heap} (hvm : u.vm.Alike U.vm) (h : am_Str ad A u H) : am_Str ad A U H := ⟨h.1.moved hvm, h.2.1.moved hvm, h.2.2.moved hvm⟩
theorem am_RO.narrow {ad : Nat → Nat} {A B : Nat → Prop} {U : State} {H : Heap} (h : am_RO ad A U H) (hAB : ∀ q, B q → A q) : am_RO ad B U H := ⟨h.1.narrow hAB, h.2.1.narrow hAB, h.2.2.1, h.2.2.2.1, h.2.2.2.2.1.narrow hAB, h.2.2.2.2.2⟩
theorem am_RO.kept {ad : Nat → Nat} {A : Nat → Prop} {U : State} {H H1 : Heap} (h : am_RO ad A U H) (hq : ∀ a : Nat, a < H.size → ¬ A a → H1[a]? = H[a]?) : am_RO ad A U H1 := ⟨h.1.kept hq, h.2.1.kept hq, h.2.2.1, h.2.2.2.1, h.2.2.2.2.1.kept hq, h.2.2.2.2.2⟩
theorem am_RO.warm {ad : Nat → Nat} {A : Nat → Prop} {u U : State} {H : Heap} (hW : u.WarmedH U.vm) (h : am_RO ad A u H) : am_RO ad A U H := ⟨h.1.moved hW.alike, h.2.1.moved hW.alike, h.2.2.1.warm hW, h.2.2.2.1.warm hW, h.2.2.2.2.1.moved hW.alike, (fun q hq => (h.2.2.2.2.2.1 q hq).warmM hW), fun ty ht => am_ao_moved hW.alike (h.2.2.2.2.2.2 ty ht)⟩
theorem am_RO.same {ad : Nat → Nat} {A : Nat → Prop} {u U : State} {H : Heap} (hv : U.vm = u.vm) (h : am_RO ad A u H) : am_RO ad A U H :=
  have ha : u.vm.Alike U.vm := by rw [hv]; exact Vm.Alike.refl _
  ⟨h.1.moved ha, h.2.1.moved ha, h.2.2.1.same hv, h.2.2.2.1.same hv, h.2.2.2.2.1.moved ha, (fun q hq => (h.2.2.2.2.2.1 q hq).same rfl hv.symm), fun ty ht => am_ao_moved ha (h.2.2.2.2.2.2 ty ht)⟩
/-- the machine, the code, the words, of method mi -/
def am_Cx (p : Program) (R : Room) (s : State) (m : MethodId) (args : Array Value) (meth : Method) (c : Code) (mi : Nat) : Prop :=
  p.tables.exec = Jvm.exec ∧ c.code = am_c mi ∧ meth.sig.returnType = am_rt mi ∧ c.maxLocals = am_ml mi ∧ s.vm.findClass (am_cn (am_own mi)) = some m.cls ∧ (∀ w ∈ am_W, w.before args s = true) ∧ meth.locks = false ∧ meth.name = (am_y mi).name ∧ mi < 293 ∧ 8 ≤ R.frames ∧ 320 ≤ R.locals
theorem am_word {args : Array Value} {s : State} (hts : ∀ w ∈ am_W, w.before args s = true) {i : Nat} {w : Cond} (h : tables_1[i]? = some w) (hg : goodWord w = true) : w.before args s = true := hts w (am_inT (List.mem_of_getElem? h) hg)
/-- the room of a method: d levels of calls below it -/
def am_rm (d : Nat) (M M' : am_M) : Room := { frames := d + 8, cells := M'.2.2.2.2.1 - M.2.2.2.2.1, slots := M'.2.2.2.2.2 - M.2.2.2.2.2, locals := 40 * (d + 8) }
/-- a method's start: its world -/
def am_Pre (D : va_G) (cid : Nat → ClassId) (ad : Nat → Nat) (sz : Nat) (M M' : am_M) (U : State) : Prop := U.heap.size = sz ∧ va_P D vwCl (am_ws cid ad M) U.heap ∧ va_K D vwCl (am_tys cid) U ∧ va_D (fun _ => True) (am_ws cid ad M) ∧ am_okS M ∧ am_RO ad (va_A (am_ws cid ad M) sz) U U.heap ∧ ∀ k, M.2.2.2.2.1 ≤ k → k < M'.2.2.2.2.1 → ad k = sz + (k - M.2.2.2.2.1)
/-- its end -/
def am_Post (D : va_G) (cid : Nat → ClassId) (ad : Nat → Nat) (sz : Nat) (M : am_M) (r : Option Value) (M' : am_M) : Array Value → State → Outcome → State → Prop := fun _ st o t => o = .returned (r.map (am_tv ad)) ∧ va_P D vwCl (am_ws cid ad M') t.heap ∧ va_D (va_A (am_ws cid ad M) sz) (am_ws cid ad M') ∧ am_okS M' ∧ sz + (M'.2.2.2.2.1 - M.2.2.2.2.1) ≤ t.heap.size ∧ M.2.2.2.2.1 ≤ M'.2.2.2.2.1 ∧ M.2.2.2.2.2 ≤ M'.2.2.2.2.2 ∧ va_F (va_A (am_ws cid ad M) sz) st t
noncomputable def am_wsm (mi : Nat) : List Cond := Cond.code (am_y mi) (am_c mi) (am_ml mi) (am_rt mi) :: am_W
/-- the contract of a run of a method -/
def am_Met (l : Launch) (D : va_G) (cid : Nat → ClassId) (ad : Nat → Nat) (d mi : Nat) (as : List Value) (M : am_M) (r : Option Value) (M' : am_M) : Prop :=
  ∀ sz, Met l (am_y mi) (am_wsm mi) (am_rm d M M') (va_Pc (as.map (am_tv ad)) (am_Pre D cid ad sz M M')) (am_Post D cid ad sz M r M') (M'.2.2.2.2.1 - M.2.2.2.2.1) (M'.2.2.2.2.2 - M.2.2.2.2.2) (va_A (am_ws cid ad M) sz)
theorem am_blind (D : va_G) (cid : Nat → ClassId) (ad : Nat → Nat) (sz : Nat) (as : List Value) (M M' : am_M) : FrameBlind (va_Pc as (am_Pre D cid ad sz M M')) := by
  intro a U g mk q
  obtain ⟨q0, q1, qP, qK, qD, qS, qR, qa⟩ := q
  exact ⟨q0, q1, qP, va_K.moved (u := U) (U := U.calling g mk a) (Vm.Alike.refl U.vm) qK, qD, qS, am_RO.same (u := U) (U := U.calling g mk a) rfl qR, qa⟩
/-- behind a call, whatever it answers -/
theorem am_goes {p : Program} {l : Launch} {e : Env} {R : Room} {s : State} {m : MethodId} {args : Array Value} {below : List Frame} {meth : Method} {c : Code} {H : Heap} {locs : List Loc} {cells slots mc ms pc : Nat} {Q : State → Prop} {ls : Array Slot} {st0 rest : List Value} {Qa : State → Outcome → State → Prop} {free : Addr → Prop}
    (hr : va_Run p l e R s m args below meth c H locs cells slots mc ms (F0 m pc ls st0) rest Qa free)
    (kk : ∀ (v : Option Value) (st₀ t : State) (locs1 : List Loc), st₀.heap = H → Qa st₀ (.returned v) t → (∀ q ∈ locs1, q ∈ locs ∨ free q.base) → W p l e R s m args below meth c t.heap locs1 (cells + mc) (slots + ms) Q (F0 m (pc + 3) ls (v.toList ++ rest))) : W p l e R s m args below meth c H locs cells slots Q (F0 m pc ls st0) := by
  intro T hT X
  obtain ⟨v, st₀, t, T', L, h0, X', hL, e1, e2, hq, st⟩ := hr T hT X
  obtain ⟨t2, a1, b1⟩ := kk v st₀ t (locs ++ L) h0 hq (fun q hq => by
    rcases List.mem_append.mp hq with h | h
    · exact Or.inl h
    · exact Or.inr (hL q h)) T' e1 X'
  exact ⟨t2, st t2 a1, b1⟩
