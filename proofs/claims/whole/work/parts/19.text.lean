/-! charAt and indexOf of the two texts: the JDK's own methods over strings that nobody writes -/
/-- the contract of a JDK method that reads and changes nothing -/
def tx_rm (n : Nat) : Room := { frames := n, cells := 0, slots := 0, locals := 40 * n }
def tx_Q (r : Option Value) : Array Value → State → Outcome → State → Prop := fun _ st o t => o = .returned r ∧ t.heap = st.heap
def tx_P (ad : Nat → Nat) (U : State) : Prop := am_Str ad (fun _ => False) U U.heap
noncomputable def tx_ws (y : MethodName) (cc : ByteArray) (ml : Nat) (rt : Option FieldType) : List Cond := Cond.code y cc ml rt :: am_W
def tx_Met (l : Launch) (ad : Nat → Nat) (y : MethodName) (cc : ByteArray) (ml : Nat) (rt : Option FieldType) (n : Nat) (as : List Value) (r : Option Value) : Prop :=
  Met l y (tx_ws y cc ml rt) (tx_rm n) (va_Pc as (tx_P ad)) (tx_Q r) 0 0 (fun _ => False)
/-- a method's body: its machine, code, words -/
def tx_C (p : Program) (s : State) (m : MethodId) (args : Array Value) (meth : Method) (c : Code) (own : String) (cc : ByteArray) (ml : Nat) (rt : Option FieldType) (ad : Nat → Nat) : Prop := p.tables.exec = Jvm.exec ∧ c.code = cc ∧ meth.sig.returnType = rt ∧ c.maxLocals = ml ∧ s.vm.findClass own = some m.cls ∧ (∀ w ∈ am_W, w.before args s = true) ∧ meth.locks = false ∧ am_Str ad (fun _ => False) s s.heap
theorem tx_ofW {l : Launch} {y : MethodName} {ws ws' : List Cond} {rm : Room} {Pc : Array Value → State → Prop} {Qc : Array Value → State → Outcome → State → Prop} {mc ms : Nat} {free : Addr → Prop} {cc : ByteArray} {maxL : Nat} {ret : Option FieldType}
    (hy : plainFor y = true) (hw : ws = Cond.code y cc maxL ret :: ws')
    (body : ∀ p e s m args below meth c s₁, BodyLoose p l y (headSpec ws rm) cc maxL ret e s m args below meth c s₁ → c.maxLocals = maxL → Pc args s →
      W p l e (headSpec ws rm).room s m args below meth c s.heap [] 0 0 (MQ below Qc args s mc ms free) (entryFrame m args maxL)) : Met l y ws rm Pc Qc mc ms free := by
  refine MetFree.of_bodySF (code := cc) (maxLocals := maxL) (ret := ret) hy ?_ ?_
  · intro args s m h hn
    obtain ⟨meth, c, h1, h2, h3, h4, h5, h6, -, -⟩ := Cond.code_spec hn (atoms_spec (ws := ws) h _ (by rw [hw]; exact List.mem_cons_self))
    exact ⟨meth, c, h1, h2, h3, h4, h5, h6⟩
  · intro p e s m args below meth c s₁ B hml hP _
    have hh0 : s₁.heap = s.heap := by rw [B.state]; rfl
    obtain ⟨t, a1, o, b1, b2, b3⟩ := body p e s m args below meth c s₁ B hml hP s₁ hh0 (Stand.of_body B)
    exact ⟨t, o, a1, b1, b2, ⟨b3.1, b3.2⟩⟩
theorem tx_of {l : Launch} {ad : Nat → Nat} {y : MethodName} {cc : ByteArray} {ml : Nat} {rt : Option FieldType} {n : Nat} {as : List Value} {r : Option Value} (hy : plainFor y = true) (hsp : (lg_sl as).length ≤ ml)
    (body : ∀ (p : Program) (e : Env) (s : State) (m : MethodId) (args : Array Value) (below : List Frame) (meth : Method) (c : Code) (ls : Array Slot), tx_C p s m args meth c y.cls cc ml rt ad → lv_has ls ml (lv_args 0 as) →
      W p l e (tx_rm n) s m args below meth c s.heap [] 0 0 (MQ below (tx_Q r) args s 0 0 (fun _ => False)) (F0 m 0 ls [])) : tx_Met l ad y cc ml rt n as r := by
  refine tx_ofW (cc := cc) (maxL := ml) (ret := rt) hy rfl ?_
  intro p e s m args below meth c s₁ B hml hv
  obtain ⟨rfl, hP⟩ := hv
  have hts0 := atoms_spec (ws := tx_ws y cc ml rt) B.pre
  rw [lg_entry_eq]
  exact body p e s m _ below meth c _ ⟨B.exec, B.bytes, B.returns, hml, findClass_of_methodNamed B.named, fun w hw => hts0 w (List.mem_cons_of_mem _ hw), B.notSynchronized, hP⟩ (lv_entry as hsp)
theorem tx_blind (ad : Nat → Nat) (as : List Value) : FrameBlind (va_Pc as (tx_P ad)) := by
  intro a U g mk q
  obtain ⟨q0, q1⟩ := q
  exact ⟨q0, am_Str.moved (u := U) (U := U.calling g mk a) (Vm.Alike.refl U.vm) q1⟩
theorem tx_good {y : MethodName} {cc : ByteArray} {ml : Nat} {rt : Option FieldType} (hc : Cond.code y cc ml rt ∈ am_W) : GoodIn am_W (tx_ws y cc ml rt) := by
  intro w hw
  have hm : w ∈ am_W := by
    rcases List.mem_cons.mp hw with q | q
    · rw [q]; exact hc
    · exact q
  exact ⟨hm, am_goodW hm⟩
theorem tx_goodC {x : Cond} (hx : x ∈ am_W) {ws : List Cond} (hg : GoodIn am_W ws) : GoodIn am_W (x :: ws) := by
  intro w hw
  rcases List.mem_cons.mp hw with q | q
  · rw [q]; exact ⟨hx, am_goodW hx⟩
  · exact hg w q
section TXC
variable {p : Program} {l : Launch} {e : Env} {R : Room} {s : State} {m : MethodId} {args : Array Value} {below : List Frame} {meth : Method} {c : Code} {ad : Nat → Nat} {Q : State → Prop} {H : Heap} {locs : List Loc} {cells slots pc idx n k ml : Nat} {ls : Array Slot} {rest As : List Value} {own : String} {cc : ByteArray} {r : Option Value}
variable {y : MethodName} {cc2 : ByteArray} {ml2 : Nat} {rt2 : Option FieldType}
/-- a static method's call -/
theorem tx_callS (S : CallFix p m c cc ml s args am_W own) (hst : ∀ U : State, U.heap = H → s.WarmedH U.vm → tx_P ad U) (hm : tx_Met l ad y cc2 ml2 rt2 n As r) (w1 : Cond.methodLink own idx y ∈ am_W) (w2 : Cond.static y ∈ am_W) (w3 : Cond.initialized y.cls ∈ am_W) (w4 : Cond.code y cc2 ml2 rt2 ∈ am_W)
    (hy : y.cls ≠ "java/lang/invoke/MethodHandle" ∧ y.cls ≠ "java/lang/invoke/VarHandle" ∧ (parseMethodDescriptor y.desc).map (fun d => d.parameters.length) = some As.length) (hR : n + 1 ≤ R.frames ∧ 8 + (ml2 + 11) + 40 * n ≤ R.locals) (hsz : ls.size = ml) (hc : am_cats rest ≤ 8) (hd : decode cc pc = .ok (.invokestatic idx, 3)) (hf : cells ≤ R.cells ∧ slots ≤ R.slots)
    (kk : ∀ locs1 : List Loc, (∀ q ∈ locs1, q ∈ locs) → W p l e R s m args below meth c H locs1 cells slots Q (F0 m (pc + 3) ls (r.toList ++ rest))) : W p l e R s m args below meth c H locs cells slots Q (F0 m pc ls (As.reverse ++ rest)) := by
  have hg : GoodIn am_W (va_wsS own idx y (tx_ws y cc2 ml2 rt2)) := by
    unfold va_wsS
    exact tx_goodC w1 (tx_goodC w2 (tx_goodC w3 (tx_good w4)))
  have hrun : va_Run p l e R s m args below meth c H locs cells slots 0 0 (F0 m pc ls (As.reverse ++ rest)) rest (tx_Q r As.toArray) (fun _ => False) :=
    va_runS (As := As) (rest := rest) S hm (va_cwS As.length S.2.2.2.2 hg rfl rfl rfl hy hR) ⟨tx_blind ad As, fun U hU hW => ⟨rfl, hst U hU hW⟩⟩ rfl rfl hsz rfl (lv_room hc) hd hf
  refine am_goes hrun (fun v st₀ t locs1 h0 hq hlo => ?_)
  obtain ⟨ho, hh⟩ := hq
  cases ho
  rw [hh, h0]
  exact kk locs1 (fun q hq => (hlo q hq).resolve_right id)
/-- a string's method's call -/
theorem tx_callV (S : CallFix p m c cc ml s args am_W own) (hst : ∀ U : State, U.heap = H → s.WarmedH U.vm → tx_P ad U) (hk : k < 2) (hcell : ∃ cell : Cell, H[ad (1000000 + k)]? = some cell ∧ cell.vm.isStatics = false ∧ s.vm.findClass "java/lang/String" = some cell.cls) (hm : tx_Met l ad y cc2 ml2 rt2 n (.ref (ad (1000000 + k)) :: As) r) (w1 : Cond.methodLink own idx y ∈ am_W) (w2 : Cond.instanceMethod y ∈ am_W) (w3 : Cond.selects "java/lang/String" y y ∈ am_W) (w4 : Cond.code y cc2 ml2 rt2 ∈ am_W) (w5 : Cond.initialized "java/lang/String" ∈ am_W)
    (hy : y.cls = "java/lang/String" ∧ y.cls ≠ "java/lang/invoke/MethodHandle" ∧ y.cls ≠ "java/lang/invoke/VarHandle" ∧ (parseMethodDescriptor y.desc).map (fun d => d.parameters.length) = some As.length) (hR : n + 1 ≤ R.frames ∧ 8 + (ml2 + 11) + 40 * n ≤ R.locals) (hsz : ls.size = ml) (hc : am_cats rest ≤ 8) (hd : decode cc pc = .ok (.invokevirtual idx, 3)) (hf : cells ≤ R.cells ∧ slots ≤ R.slots)
    (kk : ∀ locs1 : List Loc, (∀ q ∈ locs1, q ∈ locs) → W p l e R s m args below meth c H locs1 cells slots Q (F0 m (pc + 3) ls (r.toList ++ rest))) : W p l e R s m args below meth c H locs cells slots Q (F0 m pc ls (As.reverse ++ .ref (ad (1000000 + k)) :: rest)) := by
  have hg : GoodIn am_W (wsV own idx "java/lang/String" y (tx_ws y cc2 ml2 rt2)) := by
    unfold wsV
    exact tx_goodC w1 (tx_goodC w2 (tx_goodC w3 (tx_goodC w5 (tx_good w4))))
  have hrun : va_Run p l e R s m args below meth c H locs cells slots 0 0 (F0 m pc ls (As.reverse ++ .ref (ad (1000000 + k)) :: rest)) rest (tx_Q r (Value.ref (ad (1000000 + k)) :: As).toArray) (fun _ => False) :=
    va_runV (C := "java/lang/String") (As := As) (rest := rest) S hm (cwV As.length S.2.2.2.2 hg rfl rfl rfl hy hR) ⟨tx_blind ad _, hcell, fun U hU hW => ⟨rfl, hst U hU hW⟩⟩ rfl rfl hsz rfl (lv_room hc) hd hf
  refine am_goes hrun (fun v st₀ t locs1 h0 hq hlo => ?_)
  obtain ⟨ho, hh⟩ := hq
  cases ho
  rw [hh, h0]
  exact kk locs1 (fun q hq => (hlo q hq).resolve_right id)
end TXC
theorem tx_nil {locs1 : List Loc} (h : ∀ q ∈ locs1, q ∈ ([] : List Loc)) : locs1 = [] := List.eq_nil_iff_forall_not_mem.mpr (fun q hq => by cases h q hq)
theorem tx_C.fix {p : Program} {s : State} {m : MethodId} {args : Array Value} {meth : Method} {c : Code} {own : String} {cc : ByteArray} {ml : Nat} {rt : Option FieldType} {ad : Nat → Nat} (C : tx_C p s m args meth c own cc ml rt ad) : CallFix p m c cc ml s args am_W own := ⟨C.1, C.2.1, C.2.2.2.1, C.2.2.2.2.1, C.2.2.2.2.2.1⟩
theorem tx_C.pre {p : Program} {s : State} {m : MethodId} {args : Array Value} {meth : Method} {c : Code} {own : String} {cc : ByteArray} {ml : Nat} {rt : Option FieldType} {ad : Nat → Nat} (C : tx_C p s m args meth c own cc ml rt ad) : ∀ U : State, U.heap = s.heap → s.WarmedH U.vm → tx_P ad U := by
  intro U hU hW
  unfold tx_P
  rw [hU]
  exact C.2.2.2.2.2.2.2.moved hW.alike
theorem tx_S0 (H : Heap) : va_S (fun _ => False) H H [] := ⟨Nat.le_refl _, fun _ _ _ => rfl, fun _ h => by cases h⟩
theorem tx_w5 : (Cond.initialized "java/lang/String") ∈ am_W := am_inT (am_in1 (List.mem_of_getElem? (i := 5) (rfl : tables_1_1[5]? = _)) _) rfl
theorem tx_w6 : (Cond.initialized "java/lang/StringLatin1") ∈ am_W := am_inT (am_in1 (List.mem_of_getElem? (i := 6) (rfl : tables_1_1[6]? = _)) _) rfl
theorem tx_w7 : (Cond.initialized "jdk/internal/util/Preconditions") ∈ am_W := am_inT (am_in1 (List.mem_of_getElem? (i := 7) (rfl : tables_1_1[7]? = _)) _) rfl
theorem tx_w19 : (Cond.initialized "java/lang/Math") ∈ am_W := am_inT (am_in1 (List.mem_of_getElem? (i := 19) (rfl : tables_1_1[19]? = _)) _) rfl
theorem tx_w178 : (Cond.methodLink "TyreWorks$Text" (31 : Nat) ({ cls := "java/lang/String", name := "charAt", desc := "(I)C" } : MethodName)) ∈ am_W := am_inT (am_in1 (List.mem_of_getElem? (i := 178) (rfl : tables_1_1[178]? = _)) _) rfl
theorem tx_w179 : (Cond.instanceMethod ({ cls := "java/lang/String", name := "charAt", desc := "(I)C" } : MethodName)) ∈ am_W := am_inT (am_in1 (List.mem_of_getElem? (i := 179) (rfl : tables_1_1[179]? = _)) _) rfl
theorem tx_w180 : (Cond.selects "java/lang/String" ({ cls := "java/lang/String", name := "charAt", desc := "(I)C" } : MethodName) ({ cls := "java/lang/String", name := "charAt", desc := "(I)C" } : MethodName)) ∈ am_W := am_inT (am_in1 (List.mem_of_getElem? (i := 180) (rfl : tables_1_1[180]? = _)) _) rfl
theorem tx_w181 : (Cond.code ({ cls := "java/lang/String", name := "charAt", desc := "(I)C" } : MethodName) prog_17_method_56_code (2 : Nat) (Option.some ClassFile.FieldType.char)) ∈ am_W := am_inT (am_in1 (List.mem_of_getElem? (i := 181) (rfl : tables_1_1[181]? = _)) _) rfl
theorem tx_w182 : (Cond.methodLink "java/lang/String" (492 : Nat) ({ cls := "java/lang/String", name := "isLatin1", desc := "()Z" } : MethodName)) ∈ am_W := am_inT (am_in1 (List.mem_of_getElem? (i := 182) (rfl : tables_1_1[182]? = _)) _) rfl
theorem tx_w183 : (Cond.instanceMethod ({ cls := "java/lang/String", name := "isLatin1", desc := "()Z" } : MethodName)) ∈ am_W := am_inT (am_in1 (List.mem_of_getElem? (i := 183) (rfl : tables_1_1[183]? = _)) _) rfl
theorem tx_w184 : (Cond.selects "java/lang/String" ({ cls := "java/lang/String", name := "isLatin1", desc := "()Z" } : MethodName) ({ cls := "java/lang/String", name := "isLatin1", desc := "()Z" } : MethodName)) ∈ am_W := am_inT (am_in1 (List.mem_of_getElem? (i := 184) (rfl : tables_1_1[184]? = _)) _) rfl
theorem tx_w185 : (Cond.code ({ cls := "java/lang/String", name := "isLatin1", desc := "()Z" } : MethodName) prog_17_method_154_code (1 : Nat) (Option.some ClassFile.FieldType.boolean)) ∈ am_W := am_inT (am_in1 (List.mem_of_getElem? (i := 185) (rfl : tables_1_1[185]? = _)) _) rfl
theorem tx_w186 : (Cond.fieldLink "java/lang/String" (38 : Nat) "java/lang/String" "COMPACT_STRINGS" "Z") ∈ am_W := am_inT (am_in1 (List.mem_of_getElem? (i := 186) (rfl : tables_1_1[186]? = _)) _) rfl
theorem tx_w188 : (Cond.methodLink "java/lang/String" (495 : Nat) ({ cls := "java/lang/StringLatin1", name := "charAt", desc := "([BI)C" } : MethodName)) ∈ am_W := am_inT (am_in1 (List.mem_of_getElem? (i := 188) (rfl : tables_1_1[188]? = _)) _) rfl
theorem tx_w189 : (Cond.static ({ cls := "java/lang/StringLatin1", name := "charAt", desc := "([BI)C" } : MethodName)) ∈ am_W := am_inT (am_in1 (List.mem_of_getElem? (i := 189) (rfl : tables_1_1[189]? = _)) _) rfl
theorem tx_w190 : (Cond.code ({ cls := "java/lang/StringLatin1", name := "charAt", desc := "([BI)C" } : MethodName) prog_18_method_2_code (2 : Nat) (Option.some ClassFile.FieldType.char)) ∈ am_W := am_inT (am_in1 (List.mem_of_getElem? (i := 190) (rfl : tables_1_1[190]? = _)) _) rfl
theorem tx_w191 : (Cond.methodLink "java/lang/StringLatin1" (9 : Nat) ({ cls := "java/lang/String", name := "checkIndex", desc := "(II)V" } : MethodName)) ∈ am_W := am_inT (am_in1 (List.mem_of_getElem? (i := 191) (rfl : tables_1_1[191]? = _)) _) rfl
theorem tx_w192 : (Cond.static ({ cls := "java/lang/String", name := "checkIndex", desc := "(II)V" } : MethodName)) ∈ am_W := am_inT (am_in1 (List.mem_of_getElem? (i := 192) (rfl : tables_1_1[192]? = _)) _) rfl
theorem tx_w193 : (Cond.code ({ cls := "java/lang/String", name := "checkIndex", desc := "(II)V" } : MethodName) prog_17_method_155_code (2 : Nat) (Option.none : Option ClassFile.FieldType)) ∈ am_W := am_inT (am_in1 (List.mem_of_getElem? (i := 193) (rfl : tables_1_1[193]? = _)) _) rfl
theorem tx_w194 : (Cond.fieldLink "java/lang/String" (1053 : Nat) "jdk/internal/util/Preconditions" "SIOOBE_FORMATTER" "Ljava/util/function/BiFunction;") ∈ am_W := am_inT (am_in1 (List.mem_of_getElem? (i := 194) (rfl : tables_1_1[194]? = _)) _) rfl
theorem tx_w196 : (Cond.methodLink "java/lang/String" (1059 : Nat) ({ cls := "jdk/internal/util/Preconditions", name := "checkIndex", desc := "(IILjava/util/function/BiFunction;)I" } : MethodName)) ∈ am_W := am_inT (am_in1 (List.mem_of_getElem? (i := 196) (rfl : tables_1_1[196]? = _)) _) rfl
theorem tx_w197 : (Cond.static ({ cls := "jdk/internal/util/Preconditions", name := "checkIndex", desc := "(IILjava/util/function/BiFunction;)I" } : MethodName)) ∈ am_W := am_inT (am_in1 (List.mem_of_getElem? (i := 197) (rfl : tables_1_1[197]? = _)) _) rfl
theorem tx_w198 : (Cond.code ({ cls := "jdk/internal/util/Preconditions", name := "checkIndex", desc := "(IILjava/util/function/BiFunction;)I" } : MethodName) prog_22_method_11_code (3 : Nat) (Option.some ClassFile.FieldType.int)) ∈ am_W := am_inT (am_in1 (List.mem_of_getElem? (i := 198) (rfl : tables_1_1[198]? = _)) _) rfl
theorem tx_w574 : (Cond.methodLink "TyreWorks$Text" (109 : Nat) ({ cls := "java/lang/String", name := "indexOf", desc := "(I)I" } : MethodName)) ∈ am_W := am_inT (am_in2 _ (am_in2 _ (am_in1 (List.mem_of_getElem? (i := 94) (rfl : tables_1_3[94]? = _)) _))) rfl
theorem tx_w575 : (Cond.instanceMethod ({ cls := "java/lang/String", name := "indexOf", desc := "(I)I" } : MethodName)) ∈ am_W := am_inT (am_in2 _ (am_in2 _ (am_in1 (List.mem_of_getElem? (i := 95) (rfl : tables_1_3[95]? = _)) _))) rfl
theorem tx_w576 : (Cond.selects "java/lang/String" ({ cls := "java/lang/String", name := "indexOf", desc := "(I)I" } : MethodName) ({ cls := "java/lang/String", name := "indexOf", desc := "(I)I" } : MethodName)) ∈ am_W := am_inT (am_in2 _ (am_in2 _ (am_in1 (List.mem_of_getElem? (i := 96) (rfl : tables_1_3[96]? = _)) _))) rfl
theorem tx_w577 : (Cond.code ({ cls := "java/lang/String", name := "indexOf", desc := "(I)I" } : MethodName) prog_17_method_79_code (2 : Nat) (Option.some ClassFile.FieldType.int)) ∈ am_W := am_inT (am_in2 _ (am_in2 _ (am_in1 (List.mem_of_getElem? (i := 97) (rfl : tables_1_3[97]? = _)) _))) rfl
theorem tx_w578 : (Cond.methodLink "java/lang/String" (633 : Nat) ({ cls := "java/lang/String", name := "indexOf", desc := "(II)I" } : MethodName)) ∈ am_W := am_inT (am_in2 _ (am_in2 _ (am_in1 (List.mem_of_getElem? (i := 98) (rfl : tables_1_3[98]? = _)) _))) rfl
theorem tx_w579 : (Cond.instanceMethod ({ cls := "java/lang/String", name := "indexOf", desc := "(II)I" } : MethodName)) ∈ am_W := am_inT (am_in2 _ (am_in2 _ (am_in1 (List.mem_of_getElem? (i := 99) (rfl : tables_1_3[99]? = _)) _))) rfl
theorem tx_w580 : (Cond.selects "java/lang/String" ({ cls := "java/lang/String", name := "indexOf", desc := "(II)I" } : MethodName) ({ cls := "java/lang/String", name := "indexOf", desc := "(II)I" } : MethodName)) ∈ am_W := am_inT (am_in2 _ (am_in2 _ (am_in1 (List.mem_of_getElem? (i := 100) (rfl : tables_1_3[100]? = _)) _))) rfl
theorem tx_w581 : (Cond.code ({ cls := "java/lang/String", name := "indexOf", desc := "(II)I" } : MethodName) prog_17_method_80_code (3 : Nat) (Option.some ClassFile.FieldType.int)) ∈ am_W := am_inT (am_in2 _ (am_in2 _ (am_in1 (List.mem_of_getElem? (i := 101) (rfl : tables_1_3[101]? = _)) _))) rfl
theorem tx_w582 : (Cond.methodLink "java/lang/String" (505 : Nat) ({ cls := "java/lang/String", name := "length", desc := "()I" } : MethodName)) ∈ am_W := am_inT (am_in2 _ (am_in2 _ (am_in1 (List.mem_of_getElem? (i := 102) (rfl : tables_1_3[102]? = _)) _))) rfl
theorem tx_w583 : (Cond.instanceMethod ({ cls := "java/lang/String", name := "length", desc := "()I" } : MethodName)) ∈ am_W := am_inT (am_in2 _ (am_in2 _ (am_in1 (List.mem_of_getElem? (i := 103) (rfl : tables_1_3[103]? = _)) _))) rfl
theorem tx_w584 : (Cond.selects "java/lang/String" ({ cls := "java/lang/String", name := "length", desc := "()I" } : MethodName) ({ cls := "java/lang/String", name := "length", desc := "()I" } : MethodName)) ∈ am_W := am_inT (am_in2 _ (am_in2 _ (am_in1 (List.mem_of_getElem? (i := 104) (rfl : tables_1_3[104]? = _)) _))) rfl
theorem tx_w585 : (Cond.code ({ cls := "java/lang/String", name := "length", desc := "()I" } : MethodName) prog_17_method_54_code (1 : Nat) (Option.some ClassFile.FieldType.int)) ∈ am_W := am_inT (am_in2 _ (am_in2 _ (am_in1 (List.mem_of_getElem? (i := 105) (rfl : tables_1_3[105]? = _)) _))) rfl
theorem tx_w586 : (Cond.methodLink "java/lang/String" (335 : Nat) ({ cls := "java/lang/String", name := "coder", desc := "()B" } : MethodName)) ∈ am_W := am_inT (am_in2 _ (am_in2 _ (am_in1 (List.mem_of_getElem? (i := 106) (rfl : tables_1_3[106]? = _)) _))) rfl
theorem tx_w587 : (Cond.instanceMethod ({ cls := "java/lang/String", name := "coder", desc := "()B" } : MethodName)) ∈ am_W := am_inT (am_in2 _ (am_in2 _ (am_in1 (List.mem_of_getElem? (i := 107) (rfl : tables_1_3[107]? = _)) _))) rfl
theorem tx_w588 : (Cond.selects "java/lang/String" ({ cls := "java/lang/String", name := "coder", desc := "()B" } : MethodName) ({ cls := "java/lang/String", name := "coder", desc := "()B" } : MethodName)) ∈ am_W := am_inT (am_in2 _ (am_in2 _ (am_in1 (List.mem_of_getElem? (i := 108) (rfl : tables_1_3[108]? = _)) _))) rfl
theorem tx_w589 : (Cond.code ({ cls := "java/lang/String", name := "coder", desc := "()B" } : MethodName) prog_17_method_152_code (1 : Nat) (Option.some ClassFile.FieldType.byte)) ∈ am_W := am_inT (am_in2 _ (am_in2 _ (am_in1 (List.mem_of_getElem? (i := 109) (rfl : tables_1_3[109]? = _)) _))) rfl
theorem tx_w590 : (Cond.methodLink "java/lang/String" (637 : Nat) ({ cls := "java/lang/StringLatin1", name := "indexOf", desc := "([BIII)I" } : MethodName)) ∈ am_W := am_inT (am_in2 _ (am_in2 _ (am_in1 (List.mem_of_getElem? (i := 110) (rfl : tables_1_3[110]? = _)) _))) rfl
theorem tx_w591 : (Cond.static ({ cls := "java/lang/StringLatin1", name := "indexOf", desc := "([BIII)I" } : MethodName)) ∈ am_W := am_inT (am_in2 _ (am_in2 _ (am_in1 (List.mem_of_getElem? (i := 111) (rfl : tables_1_3[111]? = _)) _))) rfl
theorem tx_w592 : (Cond.code ({ cls := "java/lang/StringLatin1", name := "indexOf", desc := "([BIII)I" } : MethodName) prog_18_method_22_code (4 : Nat) (Option.some ClassFile.FieldType.int)) ∈ am_W := am_inT (am_in2 _ (am_in2 _ (am_in1 (List.mem_of_getElem? (i := 112) (rfl : tables_1_3[112]? = _)) _))) rfl
theorem tx_w593 : (Cond.methodLink "java/lang/StringLatin1" (88 : Nat) ({ cls := "java/lang/StringLatin1", name := "canEncode", desc := "(I)Z" } : MethodName)) ∈ am_W := am_inT (am_in2 _ (am_in2 _ (am_in1 (List.mem_of_getElem? (i := 113) (rfl : tables_1_3[113]? = _)) _))) rfl
theorem tx_w594 : (Cond.static ({ cls := "java/lang/StringLatin1", name := "canEncode", desc := "(I)Z" } : MethodName)) ∈ am_W := am_inT (am_in2 _ (am_in2 _ (am_in1 (List.mem_of_getElem? (i := 114) (rfl : tables_1_3[114]? = _)) _))) rfl
theorem tx_w595 : (Cond.code ({ cls := "java/lang/StringLatin1", name := "canEncode", desc := "(I)Z" } : MethodName) prog_18_method_4_code (1 : Nat) (Option.some ClassFile.FieldType.boolean)) ∈ am_W := am_inT (am_in2 _ (am_in2 _ (am_in1 (List.mem_of_getElem? (i := 115) (rfl : tables_1_3[115]? = _)) _))) rfl
theorem tx_w596 : (Cond.methodLink "java/lang/StringLatin1" (92 : Nat) ({ cls := "java/lang/Math", name := "max", desc := "(II)I" } : MethodName)) ∈ am_W := am_inT (am_in2 _ (am_in2 _ (am_in1 (List.mem_of_getElem? (i := 116) (rfl : tables_1_3[116]? = _)) _))) rfl
theorem tx_w597 : (Cond.static ({ cls := "java/lang/Math", name := "max", desc := "(II)I" } : MethodName)) ∈ am_W := am_inT (am_in2 _ (am_in2 _ (am_in1 (List.mem_of_getElem? (i := 117) (rfl : tables_1_3[117]? = _)) _))) rfl
theorem tx_w598 : (Cond.code ({ cls := "java/lang/Math", name := "max", desc := "(II)I" } : MethodName) prog_16_method_65_code (2 : Nat) (Option.some ClassFile.FieldType.int)) ∈ am_W := am_inT (am_in2 _ (am_in2 _ (am_in1 (List.mem_of_getElem? (i := 118) (rfl : tables_1_3[118]? = _)) _))) rfl
theorem tx_w599 : (Cond.methodLink "java/lang/StringLatin1" (38 : Nat) ({ cls := "java/lang/Math", name := "min", desc := "(II)I" } : MethodName)) ∈ am_W := am_inT (am_in2 _ (am_in2 _ (am_in1 (List.mem_of_getElem? (i := 119) (rfl : tables_1_3[119]? = _)) _))) rfl
theorem tx_w600 : (Cond.static ({ cls := "java/lang/Math", name := "min", desc := "(II)I" } : MethodName)) ∈ am_W := am_inT (am_in2 _ (am_in2 _ (am_in1 (List.mem_of_getElem? (i := 120) (rfl : tables_1_3[120]? = _)) _))) rfl
theorem tx_w601 : (Cond.code ({ cls := "java/lang/Math", name := "min", desc := "(II)I" } : MethodName) prog_16_method_69_code (2 : Nat) (Option.some ClassFile.FieldType.int)) ∈ am_W := am_inT (am_in2 _ (am_in2 _ (am_in1 (List.mem_of_getElem? (i := 121) (rfl : tables_1_3[121]? = _)) _))) rfl
theorem tx_w602 : (Cond.methodLink "java/lang/StringLatin1" (95 : Nat) ({ cls := "java/lang/StringLatin1", name := "indexOfChar", desc := "([BIII)I" } : MethodName)) ∈ am_W := am_inT (am_in2 _ (am_in2 _ (am_in1 (List.mem_of_getElem? (i := 122) (rfl : tables_1_3[122]? = _)) _))) rfl
theorem tx_w603 : (Cond.static ({ cls := "java/lang/StringLatin1", name := "indexOfChar", desc := "([BIII)I" } : MethodName)) ∈ am_W := am_inT (am_in2 _ (am_in2 _ (am_in1 (List.mem_of_getElem? (i := 123) (rfl : tables_1_3[123]? = _)) _))) rfl
theorem tx_w604 : (Cond.code ({ cls := "java/lang/StringLatin1", name := "indexOfChar", desc := "([BIII)I" } : MethodName) prog_18_method_23_code (6 : Nat) (Option.some ClassFile.FieldType.int)) ∈ am_W := am_inT (am_in2 _ (am_in2 _ (am_in1 (List.mem_of_getElem? (i := 124) (rfl : tables_1_3[124]? = _)) _))) rfl
theorem tx_w2082 : (Cond.fieldLink "java/lang/String" (15 : Nat) "java/lang/String" "coder" "B") ∈ am_W := am_inT (am_in2 _ (am_in2 _ (am_in2 _ (am_in2 _ (am_in2 _ (am_in2 _ (am_in2 _ (am_in2 _ (List.mem_of_getElem? (i := 162) (rfl : tables_1_9[162]? = _)))))))))) rfl
theorem tx_w2083 : (Cond.fieldLink "java/lang/String" (9 : Nat) "java/lang/String" "value" "[B") ∈ am_W := am_inT (am_in2 _ (am_in2 _ (am_in2 _ (am_in2 _ (am_in2 _ (am_in2 _ (am_in2 _ (am_in2 _ (List.mem_of_getElem? (i := 163) (rfl : tables_1_9[163]? = _)))))))))) rfl
def tx_yca : MethodName := ⟨"java/lang/String", "charAt", "(I)C"⟩
theorem tx_ca0 : decode prog_17_method_56_code 0 = .ok (.aload_n 0, 1) := by decide +kernel
theorem tx_ca1 : decode prog_17_method_56_code 1 = .ok (.invokevirtual 492, 3) := by decide +kernel
theorem tx_ca4 : decode prog_17_method_56_code 4 = .ok (.ifCond .eq 12, 3) := by decide +kernel
theorem tx_ca7 : decode prog_17_method_56_code 7 = .ok (.aload_n 0, 1) := by decide +kernel
theorem tx_ca8 : decode prog_17_method_56_code 8 = .ok (.getfield 9, 3) := by decide +kernel
theorem tx_ca11 : decode prog_17_method_56_code 11 = .ok (.iload_n 1, 1) := by decide +kernel
theorem tx_ca12 : decode prog_17_method_56_code 12 = .ok (.invokestatic 495, 3) := by decide +kernel
theorem tx_ca15 : decode prog_17_method_56_code 15 = .ok (.ireturn, 1) := by decide +kernel
theorem tx_ca16 : decode prog_17_method_56_code 16 = .ok (.aload_n 0, 1) := by decide +kernel
theorem tx_ca17 : decode prog_17_method_56_code 17 = .ok (.getfield 9, 3) := by decide +kernel
theorem tx_ca20 : decode prog_17_method_56_code 20 = .ok (.iload_n 1, 1) := by decide +kernel
theorem tx_ca21 : decode prog_17_method_56_code 21 = .ok (.invokestatic 498, 3) := by decide +kernel
theorem tx_ca24 : decode prog_17_method_56_code 24 = .ok (.ireturn, 1) := by decide +kernel
def tx_yil : MethodName := ⟨"java/lang/String", "isLatin1", "()Z"⟩
theorem tx_il0 : decode prog_17_method_154_code 0 = .ok (.getstatic 38, 3) := by decide +kernel
theorem tx_il3 : decode prog_17_method_154_code 3 = .ok (.ifCond .eq 14, 3) := by decide +kernel
theorem tx_il6 : decode prog_17_method_154_code 6 = .ok (.aload_n 0, 1) := by decide +kernel
theorem tx_il7 : decode prog_17_method_154_code 7 = .ok (.getfield 15, 3) := by decide +kernel
theorem tx_il10 : decode prog_17_method_154_code 10 = .ok (.ifCond .ne 7, 3) := by decide +kernel
theorem tx_il13 : decode prog_17_method_154_code 13 = .ok (.iconst 1, 1) := by decide +kernel
theorem tx_il14 : decode prog_17_method_154_code 14 = .ok (.goto 4, 3) := by decide +kernel
theorem tx_il17 : decode prog_17_method_154_code 17 = .ok (.iconst 0, 1) := by decide +kernel
theorem tx_il18 : decode prog_17_method_154_code 18 = .ok (.ireturn, 1) := by decide +kernel
def tx_ylc : MethodName := ⟨"java/lang/StringLatin1", "charAt", "([BI)C"⟩
theorem tx_lc0 : decode prog_18_method_2_code 0 = .ok (.iload_n 1, 1) := by decide +kernel
theorem tx_lc1 : decode prog_18_method_2_code 1 = .ok (.aload_n 0, 1) := by decide +kernel
theorem tx_lc2 : decode prog_18_method_2_code 2 = .ok (.arraylength, 1) := by decide +kernel
theorem tx_lc3 : decode prog_18_method_2_code 3 = .ok (.invokestatic 9, 3) := by decide +kernel
theorem tx_lc6 : decode prog_18_method_2_code 6 = .ok (.aload_n 0, 1) := by decide +kernel
theorem tx_lc7 : decode prog_18_method_2_code 7 = .ok (.iload_n 1, 1) := by decide +kernel
theorem tx_lc8 : decode prog_18_method_2_code 8 = .ok (.baload, 1) := by decide +kernel
theorem tx_lc9 : decode prog_18_method_2_code 9 = .ok (.sipush 255, 3) := by decide +kernel
theorem tx_lc12 : decode prog_18_method_2_code 12 = .ok (.iand, 1) := by decide +kernel
theorem tx_lc13 : decode prog_18_method_2_code 13 = .ok (.i2c, 1) := by decide +kernel
theorem tx_lc14 : decode prog_18_method_2_code 14 = .ok (.ireturn, 1) := by decide +kernel
def tx_yci : MethodName := ⟨"java/lang/String", "checkIndex", "(II)V"⟩
theorem tx_ci0 : decode prog_17_method_155_code 0 = .ok (.iload_n 0, 1) := by decide +kernel
theorem tx_ci1 : decode prog_17_method_155_code 1 = .ok (.iload_n 1, 1) := by decide +kernel
theorem tx_ci2 : decode prog_17_method_155_code 2 = .ok (.getstatic 1053, 3) := by decide +kernel
theorem tx_ci5 : decode prog_17_method_155_code 5 = .ok (.invokestatic 1059, 3) := by decide +kernel
theorem tx_ci8 : decode prog_17_method_155_code 8 = .ok (.pop, 1) := by decide +kernel
theorem tx_ci9 : decode prog_17_method_155_code 9 = .ok (.return_, 1) := by decide +kernel
def tx_ypi : MethodName := ⟨"jdk/internal/util/Preconditions", "checkIndex", "(IILjava/util/function/BiFunction;)I"⟩
theorem tx_pi0 : decode prog_22_method_11_code 0 = .ok (.iload_n 0, 1) := by decide +kernel
theorem tx_pi1 : decode prog_22_method_11_code 1 = .ok (.ifCond .lt 8, 3) := by decide +kernel
theorem tx_pi4 : decode prog_22_method_11_code 4 = .ok (.iload_n 0, 1) := by decide +kernel
theorem tx_pi5 : decode prog_22_method_11_code 5 = .ok (.iload_n 1, 1) := by decide +kernel
theorem tx_pi6 : decode prog_22_method_11_code 6 = .ok (.if_icmp .lt 10, 3) := by decide +kernel
theorem tx_pi9 : decode prog_22_method_11_code 9 = .ok (.aload_n 2, 1) := by decide +kernel
theorem tx_pi10 : decode prog_22_method_11_code 10 = .ok (.iload_n 0, 1) := by decide +kernel
theorem tx_pi11 : decode prog_22_method_11_code 11 = .ok (.iload_n 1, 1) := by decide +kernel
theorem tx_pi12 : decode prog_22_method_11_code 12 = .ok (.invokestatic 95, 3) := by decide +kernel
theorem tx_pi15 : decode prog_22_method_11_code 15 = .ok (.athrow, 1) := by decide +kernel
theorem tx_pi16 : decode prog_22_method_11_code 16 = .ok (.iload_n 0, 1) := by decide +kernel
theorem tx_pi17 : decode prog_22_method_11_code 17 = .ok (.ireturn, 1) := by decide +kernel
def tx_yi1 : MethodName := ⟨"java/lang/String", "indexOf", "(I)I"⟩
theorem tx_i10 : decode prog_17_method_79_code 0 = .ok (.aload_n 0, 1) := by decide +kernel
theorem tx_i11 : decode prog_17_method_79_code 1 = .ok (.iload_n 1, 1) := by decide +kernel
theorem tx_i12 : decode prog_17_method_79_code 2 = .ok (.iconst 0, 1) := by decide +kernel
theorem tx_i13 : decode prog_17_method_79_code 3 = .ok (.invokevirtual 633, 3) := by decide +kernel
theorem tx_i16 : decode prog_17_method_79_code 6 = .ok (.ireturn, 1) := by decide +kernel
def tx_yi2 : MethodName := ⟨"java/lang/String", "indexOf", "(II)I"⟩
theorem tx_i20 : decode prog_17_method_80_code 0 = .ok (.aload_n 0, 1) := by decide +kernel
theorem tx_i21 : decode prog_17_method_80_code 1 = .ok (.invokevirtual 492, 3) := by decide +kernel
theorem tx_i24 : decode prog_17_method_80_code 4 = .ok (.ifCond .eq 19, 3) := by decide +kernel
theorem tx_i27 : decode prog_17_method_80_code 7 = .ok (.aload_n 0, 1) := by decide +kernel
theorem tx_i28 : decode prog_17_method_80_code 8 = .ok (.getfield 9, 3) := by decide +kernel
theorem tx_i211 : decode prog_17_method_80_code 11 = .ok (.iload_n 1, 1) := by decide +kernel
theorem tx_i212 : decode prog_17_method_80_code 12 = .ok (.iload_n 2, 1) := by decide +kernel
theorem tx_i213 : decode prog_17_method_80_code 13 = .ok (.aload_n 0, 1) := by decide +kernel
theorem tx_i214 : decode prog_17_method_80_code 14 = .ok (.invokevirtual 505, 3) := by decide +kernel
theorem tx_i217 : decode prog_17_method_80_code 17 = .ok (.invokestatic 637, 3) := by decide +kernel
theorem tx_i220 : decode prog_17_method_80_code 20 = .ok (.goto 16, 3) := by decide +kernel
theorem tx_i223 : decode prog_17_method_80_code 23 = .ok (.aload_n 0, 1) := by decide +kernel
theorem tx_i224 : decode prog_17_method_80_code 24 = .ok (.getfield 9, 3) := by decide +kernel
theorem tx_i227 : decode prog_17_method_80_code 27 = .ok (.iload_n 1, 1) := by decide +kernel
theorem tx_i228 : decode prog_17_method_80_code 28 = .ok (.iload_n 2, 1) := by decide +kernel
theorem tx_i229 : decode prog_17_method_80_code 29 = .ok (.aload_n 0, 1) := by decide +kernel
theorem tx_i230 : decode prog_17_method_80_code 30 = .ok (.invokevirtual 505, 3) := by decide +kernel
theorem tx_i233 : decode prog_17_method_80_code 33 = .ok (.invokestatic 640, 3) := by decide +kernel
theorem tx_i236 : decode prog_17_method_80_code 36 = .ok (.ireturn, 1) := by decide +kernel
def tx_yle : MethodName := ⟨"java/lang/String", "length", "()I"⟩
theorem tx_le0 : decode prog_17_method_54_code 0 = .ok (.aload_n 0, 1) := by decide +kernel
theorem tx_le1 : decode prog_17_method_54_code 1 = .ok (.getfield 9, 3) := by decide +kernel
theorem tx_le4 : decode prog_17_method_54_code 4 = .ok (.arraylength, 1) := by decide +kernel
theorem tx_le5 : decode prog_17_method_54_code 5 = .ok (.aload_n 0, 1) := by decide +kernel
theorem tx_le6 : decode prog_17_method_54_code 6 = .ok (.invokevirtual 335, 3) := by decide +kernel
theorem tx_le9 : decode prog_17_method_54_code 9 = .ok (.ishr, 1) := by decide +kernel
theorem tx_le10 : decode prog_17_method_54_code 10 = .ok (.ireturn, 1) := by decide +kernel
def tx_yco : MethodName := ⟨"java/lang/String", "coder", "()B"⟩
theorem tx_co0 : decode prog_17_method_152_code 0 = .ok (.getstatic 38, 3) := by decide +kernel
theorem tx_co3 : decode prog_17_method_152_code 3 = .ok (.ifCond .eq 10, 3) := by decide +kernel
theorem tx_co6 : decode prog_17_method_152_code 6 = .ok (.aload_n 0, 1) := by decide +kernel
theorem tx_co7 : decode prog_17_method_152_code 7 = .ok (.getfield 15, 3) := by decide +kernel
theorem tx_co10 : decode prog_17_method_152_code 10 = .ok (.goto 4, 3) := by decide +kernel
theorem tx_co13 : decode prog_17_method_152_code 13 = .ok (.iconst 1, 1) := by decide +kernel
theorem tx_co14 : decode prog_17_method_152_code 14 = .ok (.ireturn, 1) := by decide +kernel
def tx_yli : MethodName := ⟨"java/lang/StringLatin1", "indexOf", "([BIII)I"⟩
theorem tx_li0 : decode prog_18_method_22_code 0 = .ok (.iload_n 1, 1) := by decide +kernel
theorem tx_li1 : decode prog_18_method_22_code 1 = .ok (.invokestatic 88, 3) := by decide +kernel
theorem tx_li4 : decode prog_18_method_22_code 4 = .ok (.ifCond .ne 5, 3) := by decide +kernel
theorem tx_li7 : decode prog_18_method_22_code 7 = .ok (.iconst (-1), 1) := by decide +kernel
theorem tx_li8 : decode prog_18_method_22_code 8 = .ok (.ireturn, 1) := by decide +kernel
theorem tx_li9 : decode prog_18_method_22_code 9 = .ok (.iload_n 2, 1) := by decide +kernel
theorem tx_li10 : decode prog_18_method_22_code 10 = .ok (.iconst 0, 1) := by decide +kernel
theorem tx_li11 : decode prog_18_method_22_code 11 = .ok (.invokestatic 92, 3) := by decide +kernel
theorem tx_li14 : decode prog_18_method_22_code 14 = .ok (.istore_n 2, 1) := by decide +kernel
theorem tx_li15 : decode prog_18_method_22_code 15 = .ok (.iload_n 3, 1) := by decide +kernel
theorem tx_li16 : decode prog_18_method_22_code 16 = .ok (.aload_n 0, 1) := by decide +kernel
theorem tx_li17 : decode prog_18_method_22_code 17 = .ok (.arraylength, 1) := by decide +kernel
theorem tx_li18 : decode prog_18_method_22_code 18 = .ok (.invokestatic 38, 3) := by decide +kernel
theorem tx_li21 : decode prog_18_method_22_code 21 = .ok (.istore_n 3, 1) := by decide +kernel
theorem tx_li22 : decode prog_18_method_22_code 22 = .ok (.iload_n 2, 1) := by decide +kernel
theorem tx_li23 : decode prog_18_method_22_code 23 = .ok (.iload_n 3, 1) := by decide +kernel
theorem tx_li24 : decode prog_18_method_22_code 24 = .ok (.if_icmp .lt 5, 3) := by decide +kernel
theorem tx_li27 : decode prog_18_method_22_code 27 = .ok (.iconst (-1), 1) := by decide +kernel
theorem tx_li28 : decode prog_18_method_22_code 28 = .ok (.ireturn, 1) := by decide +kernel
theorem tx_li29 : decode prog_18_method_22_code 29 = .ok (.aload_n 0, 1) := by decide +kernel
theorem tx_li30 : decode prog_18_method_22_code 30 = .ok (.iload_n 1, 1) := by decide +kernel
theorem tx_li31 : decode prog_18_method_22_code 31 = .ok (.iload_n 2, 1) := by decide +kernel
theorem tx_li32 : decode prog_18_method_22_code 32 = .ok (.iload_n 3, 1) := by decide +kernel
theorem tx_li33 : decode prog_18_method_22_code 33 = .ok (.invokestatic 95, 3) := by decide +kernel
theorem tx_li36 : decode prog_18_method_22_code 36 = .ok (.ireturn, 1) := by decide +kernel
def tx_yce : MethodName := ⟨"java/lang/StringLatin1", "canEncode", "(I)Z"⟩
theorem tx_ce0 : decode prog_18_method_4_code 0 = .ok (.iload_n 0, 1) := by decide +kernel
theorem tx_ce1 : decode prog_18_method_4_code 1 = .ok (.ifCond .lt 14, 3) := by decide +kernel
theorem tx_ce4 : decode prog_18_method_4_code 4 = .ok (.iload_n 0, 1) := by decide +kernel
theorem tx_ce5 : decode prog_18_method_4_code 5 = .ok (.sipush 255, 3) := by decide +kernel
theorem tx_ce8 : decode prog_18_method_4_code 8 = .ok (.if_icmp .gt 7, 3) := by decide +kernel
theorem tx_ce11 : decode prog_18_method_4_code 11 = .ok (.iconst 1, 1) := by decide +kernel
theorem tx_ce12 : decode prog_18_method_4_code 12 = .ok (.goto 4, 3) := by decide +kernel
theorem tx_ce15 : decode prog_18_method_4_code 15 = .ok (.iconst 0, 1) := by decide +kernel
theorem tx_ce16 : decode prog_18_method_4_code 16 = .ok (.ireturn, 1) := by decide +kernel
def tx_yic : MethodName := ⟨"java/lang/StringLatin1", "indexOfChar", "([BIII)I"⟩
theorem tx_ic0 : decode prog_18_method_23_code 0 = .ok (.iload_n 1, 1) := by decide +kernel
theorem tx_ic1 : decode prog_18_method_23_code 1 = .ok (.i2b, 1) := by decide +kernel
theorem tx_ic2 : decode prog_18_method_23_code 2 = .ok (.istore 4, 2) := by decide +kernel
theorem tx_ic4 : decode prog_18_method_23_code 4 = .ok (.iload_n 2, 1) := by decide +kernel
theorem tx_ic5 : decode prog_18_method_23_code 5 = .ok (.istore 5, 2) := by decide +kernel
theorem tx_ic7 : decode prog_18_method_23_code 7 = .ok (.iload 5, 2) := by decide +kernel
theorem tx_ic9 : decode prog_18_method_23_code 9 = .ok (.iload_n 3, 1) := by decide +kernel
theorem tx_ic10 : decode prog_18_method_23_code 10 = .ok (.if_icmp .ge 21, 3) := by decide +kernel
theorem tx_ic13 : decode prog_18_method_23_code 13 = .ok (.aload_n 0, 1) := by decide +kernel
theorem tx_ic14 : decode prog_18_method_23_code 14 = .ok (.iload 5, 2) := by decide +kernel
theorem tx_ic16 : decode prog_18_method_23_code 16 = .ok (.baload, 1) := by decide +kernel
theorem tx_ic17 : decode prog_18_method_23_code 17 = .ok (.iload 4, 2) := by decide +kernel
theorem tx_ic19 : decode prog_18_method_23_code 19 = .ok (.if_icmp .ne 6, 3) := by decide +kernel
theorem tx_ic22 : decode prog_18_method_23_code 22 = .ok (.iload 5, 2) := by decide +kernel
theorem tx_ic24 : decode prog_18_method_23_code 24 = .ok (.ireturn, 1) := by decide +kernel
theorem tx_ic25 : decode prog_18_method_23_code 25 = .ok (.iinc 5 1, 3) := by decide +kernel
theorem tx_ic28 : decode prog_18_method_23_code 28 = .ok (.goto (-21), 3) := by decide +kernel
theorem tx_ic31 : decode prog_18_method_23_code 31 = .ok (.iconst (-1), 1) := by decide +kernel
theorem tx_ic32 : decode prog_18_method_23_code 32 = .ok (.ireturn, 1) := by decide +kernel
def tx_ymx : MethodName := ⟨"java/lang/Math", "max", "(II)I"⟩
theorem tx_mx0 : decode prog_16_method_65_code 0 = .ok (.iload_n 0, 1) := by decide +kernel
theorem tx_mx1 : decode prog_16_method_65_code 1 = .ok (.iload_n 1, 1) := by decide +kernel
theorem tx_mx2 : decode prog_16_method_65_code 2 = .ok (.if_icmp .lt 7, 3) := by decide +kernel
theorem tx_mx5 : decode prog_16_method_65_code 5 = .ok (.iload_n 0, 1) := by decide +kernel
theorem tx_mx6 : decode prog_16_method_65_code 6 = .ok (.goto 4, 3) := by decide +kernel
theorem tx_mx9 : decode prog_16_method_65_code 9 = .ok (.iload_n 1, 1) := by decide +kernel
theorem tx_mx10 : decode prog_16_method_65_code 10 = .ok (.ireturn, 1) := by decide +kernel
def tx_ymn : MethodName := ⟨"java/lang/Math", "min", "(II)I"⟩
theorem tx_mn0 : decode prog_16_method_69_code 0 = .ok (.iload_n 0, 1) := by decide +kernel
theorem tx_mn1 : decode prog_16_method_69_code 1 = .ok (.iload_n 1, 1) := by decide +kernel
theorem tx_mn2 : decode prog_16_method_69_code 2 = .ok (.if_icmp .gt 7, 3) := by decide +kernel
theorem tx_mn5 : decode prog_16_method_69_code 5 = .ok (.iload_n 0, 1) := by decide +kernel
theorem tx_mn6 : decode prog_16_method_69_code 6 = .ok (.goto 4, 3) := by decide +kernel
theorem tx_mn9 : decode prog_16_method_69_code 9 = .ok (.iload_n 1, 1) := by decide +kernel
theorem tx_mn10 : decode prog_16_method_69_code 10 = .ok (.ireturn, 1) := by decide +kernel
section TXW
variable {p : Program} {l : Launch} {e : Env} {s : State} {ad : Nat → Nat} {k : Nat}
theorem tx_end {r : Option Value} {args : Array Value} {s : State} : ∀ t : State, t.heap = s.heap → s.WarmedH t.vm → tx_Q r args s (.returned r) t := fun _ ht _ => ⟨rfl, ht⟩
theorem tx_coder (l : Launch) (ad : Nat → Nat) (hk : k < 2) : tx_Met l ad tx_yco prog_17_method_152_code 1 (some .byte) 0 [.ref (ad (1000000 + k))] (some (.int 0)) := by
  refine tx_of (by decide +kernel) (Nat.le_of_ble_eq_true rfl) ?_
  intro p e s m args below meth c ls ⟨hx, hb, hr, hml, hown, hts, hlk, hst⟩ hl
  refine va_gets hx hb hst.2.1 va_S.rf hown (hts _ tx_w186) (fun _ h => h) tx_co0 ?_
  refine lv_if_eq (tgt := 13) hx hb tx_co3 (by decide) (fun z => absurd z (by decide)) (fun _ => ?_)
  refine lv_aload_n hx hb tx_co6 rfl (lv_at hl 0 rfl) ?_
  refine vk_getf hx hb (hst.1.1 k hk).2.1 va_S.rf hown (hts _ tx_w2082) (fun _ h => h) tx_co7 ?_
  refine lv_goto (tgt := 14) hx hb tx_co10 (by decide) ?_
  exact W.zret (v := 0) hx hb hr (by decide) tx_end (fun _ h => by cases h) tx_co14 hlk
theorem tx_isL (l : Launch) (ad : Nat → Nat) (hk : k < 2) : tx_Met l ad tx_yil prog_17_method_154_code 1 (some .boolean) 0 [.ref (ad (1000000 + k))] (some (.int 1)) := by
  refine tx_of (by decide +kernel) (Nat.le_of_ble_eq_true rfl) ?_
  intro p e s m args below meth c ls ⟨hx, hb, hr, hml, hown, hts, hlk, hst⟩ hl
  refine va_gets hx hb hst.2.1 va_S.rf hown (hts _ tx_w186) (fun _ h => h) tx_il0 ?_
  refine lv_if_eq (tgt := 17) hx hb tx_il3 (by decide) (fun z => absurd z (by decide)) (fun _ => ?_)
  refine lv_aload_n hx hb tx_il6 rfl (lv_at hl 0 rfl) ?_
  refine vk_getf hx hb (hst.1.1 k hk).2.1 va_S.rf hown (hts _ tx_w2082) (fun _ h => h) tx_il7 ?_
  refine lv_if_ne (tgt := 17) hx hb tx_il10 (by decide) (fun z => absurd rfl z) (fun _ => ?_)
  refine lv_iconst (v := 1) hx hb tx_il13 rfl ?_
  refine lv_goto (tgt := 18) hx hb tx_il14 (by decide) ?_
  exact W.zret (v := 1) hx hb hr (by decide) tx_end (fun _ h => by cases h) tx_il18 hlk
theorem tx_pre {i n : Int32} {f : Value} (l : Launch) (ad : Nat → Nat) (hf : f = .null ∨ ∃ t, f = .ref t) (h0 : ¬ i < 0) (h1 : i < n) : tx_Met l ad tx_ypi prog_22_method_11_code 3 (some .int) 0 [.int i, .int n, f] (some (.int i)) := by
  refine tx_of rfl (by rcases hf with rfl | ⟨t, rfl⟩ <;> exact Nat.le_of_ble_eq_true rfl) ?_
  intro p e s m args below meth c ls ⟨hx, hb, hr, hml, hown, hts, hlk, hst⟩ hl
  refine lv_iload_n hx hb tx_pi0 rfl (lv_at hl 0 rfl) ?_
  refine lv_if_lt (tgt := 9) hx hb tx_pi1 (by decide) (fun z => absurd z h0) (fun _ => ?_)
  refine lv_iload_n hx hb tx_pi4 rfl (lv_at hl 0 rfl) ?_
  refine lv_iload_n hx hb tx_pi5 rfl (lv_at hl 1 rfl) ?_
  refine lv_icmp_lt (tgt := 16) hx hb tx_pi6 (by decide) (fun _ => ?_) (fun z => absurd h1 z)
  refine lv_iload_n hx hb tx_pi16 rfl (lv_at hl 0 rfl) ?_
  exact W.iret (v := i) hx hb hr tx_end (fun _ h => by cases h) tx_pi17 hlk
theorem tx_chk {i n : Int32} (l : Launch) (ad : Nat → Nat) (h0 : ¬ i < 0) (h1 : i < n) : tx_Met l ad tx_yci prog_17_method_155_code 2 none 1 [.int i, .int n] none := by
  refine tx_of (by decide +kernel) (Nat.le_of_ble_eq_true rfl) ?_
  intro p e s m args below meth c ls C hl
  have hfx := C.fix
  have hpr := C.pre
  obtain ⟨hx, hb, hr, hml, hown, hts, hlk, hst⟩ := C
  refine lv_iload_n hx hb tx_ci0 rfl (lv_at hl 0 rfl) ?_
  refine lv_iload_n hx hb tx_ci1 rfl (lv_at hl 1 rfl) ?_
  have fin : ∀ f : Value, (f = .null ∨ ∃ t, f = .ref t) → W p l e (tx_rm 1) s m args below meth c s.heap [] 0 0 (MQ below (tx_Q none) args s 0 0 (fun _ => False)) (F0 m 5 ls [f, .int n, .int i]) := fun f hf => by
    refine tx_callS (As := [.int i, .int n, f]) (rest := []) hfx hpr (tx_pre l ad hf h0 h1) tx_w196 tx_w197 tx_w7 tx_w198 ⟨by decide, by decide, rfl⟩ ⟨by decide, by decide⟩ hl.1 (by decide) tx_ci5 ⟨Nat.zero_le _, Nat.zero_le _⟩ (fun locs1 hlo => ?_)
    obtain rfl := tx_nil hlo
    refine lv_pop hx hb tx_ci8 rfl ?_
    exact W.vret hx hb hr tx_end (fun _ h => by cases h) tx_ci9 hlk
  rcases hst.2.2 with hZ | ⟨t, hZ⟩
  · exact va_gets hx hb hZ va_S.rf hown (hts _ tx_w194) (fun _ h => h) tx_ci2 (fin _ (Or.inl rfl))
  · exact va_gets hx hb hZ va_S.rf hown (hts _ tx_w194) (fun _ h => h) tx_ci2 (fin _ (Or.inr ⟨t, rfl⟩))
theorem tx_gd {P : Int32 → Prop} {l : List Int32} (h0 : P 0) (h : ∀ v ∈ l, P v) (j : Nat) : P (l.getD j 0) := by
  rw [List.getD_eq_getElem?_getD]
  cases hj : l[j]? with
  | none => exact h0
  | some v => exact h v (List.mem_of_getElem? hj)
theorem tx_ch0 : ∀ v ∈ am_txt 0, ((v &&& 255).toUInt32 % 65536).toInt32 = v ∧ narrow .char (.int v) = .int v := by decide +kernel
theorem tx_chj (j : Nat) : ((((am_txt 0).getD j 0) &&& 255).toUInt32 % 65536).toInt32 = (am_txt 0).getD j 0 ∧ narrow .char (.int ((am_txt 0).getD j 0)) = .int ((am_txt 0).getD j 0) :=
  tx_gd (P := fun v => ((v &&& 255).toUInt32 % 65536).toInt32 = v ∧ narrow .char (.int v) = .int v) (by decide) tx_ch0 j
theorem tx_cell (hst : am_Str ad (fun _ => False) s s.heap) (hk : k < 2) : ∃ cell : Cell, s.heap[ad (1000000 + k)]? = some cell ∧ cell.vm.isStatics = false ∧ s.vm.findClass "java/lang/String" = some cell.cls := by
  obtain ⟨cell, h1, h2, h3, -⟩ := (hst.1.1 k hk).1
  exact ⟨cell, h1, h2, h3⟩
theorem tx_lc {i : Int32} (l : Launch) (ad : Nat → Nat) (h : ¬ i < 0 ∧ i < 192 ∧ vp_in i 192) : tx_Met l ad tx_ylc prog_18_method_2_code 2 (some .char) 2 [.ref (ad (1100000 + 0)), .int i] (some (.int ((am_txt 0).getD i.toNatClampNeg 0))) := by
  refine tx_of (by decide +kernel) (Nat.le_of_ble_eq_true rfl) ?_
  intro p e s m args below meth c ls C hl
  have hfx := C.fix
  have hpr := C.pre
  obtain ⟨hx, hb, hr, hml, hown, hts, hlk, hst⟩ := C
  have hT := (hst.1.1 0 (by decide)).2.2.2
  refine lv_iload_n hx hb tx_lc0 rfl (lv_at hl 1 rfl) ?_
  refine lv_aload_n hx hb tx_lc1 rfl (lv_at hl 0 rfl) ?_
  refine va_tlen (v := 192) hx hb hT va_S.rf rfl tx_lc2 ?_
  refine tx_callS (As := [.int i, .int 192]) (rest := []) hfx hpr (tx_chk l ad h.1 h.2.1) tx_w191 tx_w192 tx_w5 tx_w193 ⟨by decide, by decide, rfl⟩ ⟨by decide, by decide⟩ hl.1 (by decide) tx_lc3 ⟨Nat.zero_le _, Nat.zero_le _⟩ (fun locs1 hlo => ?_)
  obtain rfl := tx_nil hlo
  refine lv_aload_n hx hb tx_lc6 rfl (lv_at hl 0 rfl) ?_
  refine lv_iload_n hx hb tx_lc7 rfl (lv_at hl 1 rfl) ?_
  refine va_tb hx hb hT va_S.rf h.2.2 (v := .int ((am_txt 0).getD i.toNatClampNeg 0)) rfl tx_lc8 ?_
  refine lv_sipush (v := 255) hx hb tx_lc9 (by decide) ?_
  refine lv_iand hx hb tx_lc12 ?_
  refine lv_i2c hx hb tx_lc13 (tx_chj _).1 ?_
  exact W.zret hx hb hr (tx_chj _).2 tx_end (fun _ h => by cases h) tx_lc14 hlk
theorem tx_ca {i : Int32} (l : Launch) (ad : Nat → Nat) (h : ¬ i < 0 ∧ i < 192 ∧ vp_in i 192) : tx_Met l ad tx_yca prog_17_method_56_code 2 (some .char) 3 [.ref (ad (1000000 + 0)), .int i] (some (.int ((am_txt 0).getD i.toNatClampNeg 0))) := by
  refine tx_of (by decide +kernel) (Nat.le_of_ble_eq_true rfl) ?_
  intro p e s m args below meth c ls C hl
  have hfx := C.fix
  have hpr := C.pre
  obtain ⟨hx, hb, hr, hml, hown, hts, hlk, hst⟩ := C
  refine lv_aload_n hx hb tx_ca0 rfl (lv_at hl 0 rfl) ?_
  refine tx_callV (k := 0) (As := []) (rest := []) hfx hpr (by decide) (tx_cell hst (by decide)) (tx_isL l ad (by decide)) tx_w182 tx_w183 tx_w184 tx_w185 tx_w5 ⟨rfl, by decide, by decide, rfl⟩ ⟨by decide, by decide⟩ hl.1 (by decide) tx_ca1 ⟨Nat.zero_le _, Nat.zero_le _⟩ (fun locs1 hlo => ?_)
  obtain rfl := tx_nil hlo
  refine lv_if_eq (tgt := 16) hx hb tx_ca4 (by decide) (fun z => absurd z (by decide)) (fun _ => ?_)
  refine lv_aload_n hx hb tx_ca7 rfl (lv_at hl 0 rfl) ?_
  refine vk_getf hx hb (hst.1.1 0 (by decide)).2.2.1 va_S.rf hown (hts _ tx_w2083) (fun _ h => h) tx_ca8 ?_
  refine lv_iload_n hx hb tx_ca11 rfl (lv_at hl 1 rfl) ?_
  refine tx_callS (As := [.ref (ad (1100000 + 0)), .int i]) (rest := []) hfx hpr (tx_lc l ad h) tx_w188 tx_w189 tx_w6 tx_w190 ⟨by decide, by decide, rfl⟩ ⟨by decide, by decide⟩ hl.1 (by decide) tx_ca12 ⟨Nat.zero_le _, Nat.zero_le _⟩ (fun locs1 hlo => ?_)
  obtain rfl := tx_nil hlo
  exact W.zret hx hb hr (tx_chj _).2 tx_end (fun _ h => by cases h) tx_ca15 hlk
theorem tx_cey {ch : Int32} (l : Launch) (ad : Nat → Nat) (h0 : ¬ ch < 0) (h1 : ¬ 255 < ch) : tx_Met l ad tx_yce prog_18_method_4_code 1 (some .boolean) 0 [.int ch] (some (.int 1)) := by
  refine tx_of (by decide +kernel) (Nat.le_of_ble_eq_true rfl) ?_
  intro p e s m args below meth c ls ⟨hx, hb, hr, hml, hown, hts, hlk, hst⟩ hl
  refine lv_iload_n hx hb tx_ce0 rfl (lv_at hl 0 rfl) ?_
  refine lv_if_lt (tgt := 15) hx hb tx_ce1 (by decide) (fun z => absurd z h0) (fun _ => ?_)
  refine lv_iload_n hx hb tx_ce4 rfl (lv_at hl 0 rfl) ?_
  refine lv_sipush (v := 255) hx hb tx_ce5 (by decide) ?_
  refine lv_icmp_gt (tgt := 15) hx hb tx_ce8 (by decide) (fun z => absurd z h1) (fun _ => ?_)
  refine lv_iconst (v := 1) hx hb tx_ce11 rfl ?_
  refine lv_goto (tgt := 16) hx hb tx_ce12 (by decide) ?_
  exact W.zret (v := 1) hx hb hr (by decide) tx_end (fun _ h => by cases h) tx_ce16 hlk
theorem tx_cen {ch : Int32} (l : Launch) (ad : Nat → Nat) (h : ch < 0 ∨ 255 < ch) : tx_Met l ad tx_yce prog_18_method_4_code 1 (some .boolean) 0 [.int ch] (some (.int 0)) := by
  refine tx_of (by decide +kernel) (Nat.le_of_ble_eq_true rfl) ?_
  intro p e s m args below meth c ls ⟨hx, hb, hr, hml, hown, hts, hlk, hst⟩ hl
  have fin : W p l e (tx_rm 0) s m args below meth c s.heap [] 0 0 (MQ below (tx_Q (some (.int 0))) args s 0 0 (fun _ => False)) (F0 m 15 ls []) := by
    refine lv_iconst (v := 0) hx hb tx_ce15 rfl ?_
    exact W.zret (v := 0) hx hb hr (by decide) tx_end (fun _ h => by cases h) tx_ce16 hlk
  refine lv_iload_n hx hb tx_ce0 rfl (lv_at hl 0 rfl) ?_
  refine lv_if_lt (tgt := 15) hx hb tx_ce1 (by decide) (fun _ => fin) (fun z => ?_)
  refine lv_iload_n hx hb tx_ce4 rfl (lv_at hl 0 rfl) ?_
  refine lv_sipush (v := 255) hx hb tx_ce5 (by decide) ?_
  exact lv_icmp_gt (tgt := 15) hx hb tx_ce8 (by decide) (fun _ => fin) (fun z2 => absurd h (fun w => w.elim z z2))
theorem tx_max (l : Launch) (ad : Nat → Nat) : tx_Met l ad tx_ymx prog_16_method_65_code 2 (some .int) 0 [.int 0, .int 0] (some (.int 0)) := by
  refine tx_of (by decide +kernel) (Nat.le_of_ble_eq_true rfl) ?_
  intro p e s m args below meth c ls ⟨hx, hb, hr, hml, hown, hts, hlk, hst⟩ hl
  refine lv_iload_n hx hb tx_mx0 rfl (lv_at hl 0 rfl) ?_
  refine lv_iload_n hx hb tx_mx1 rfl (lv_at hl 1 rfl) ?_
  refine lv_icmp_lt (tgt := 9) hx hb tx_mx2 (by decide) (fun z => absurd z (by decide)) (fun _ => ?_)
  refine lv_iload_n hx hb tx_mx5 rfl (lv_at hl 0 rfl) ?_
  refine lv_goto (tgt := 10) hx hb tx_mx6 (by decide) ?_
  exact W.iret (v := 0) hx hb hr tx_end (fun _ h => by cases h) tx_mx10 hlk
theorem tx_min (l : Launch) (ad : Nat → Nat) : tx_Met l ad tx_ymn prog_16_method_69_code 2 (some .int) 0 [.int 14, .int 14] (some (.int 14)) := by
  refine tx_of (by decide +kernel) (Nat.le_of_ble_eq_true rfl) ?_
  intro p e s m args below meth c ls ⟨hx, hb, hr, hml, hown, hts, hlk, hst⟩ hl
  refine lv_iload_n hx hb tx_mn0 rfl (lv_at hl 0 rfl) ?_
  refine lv_iload_n hx hb tx_mn1 rfl (lv_at hl 1 rfl) ?_
  refine lv_icmp_gt (tgt := 9) hx hb tx_mn2 (by decide) (fun z => absurd z (by decide)) (fun _ => ?_)
  refine lv_iload_n hx hb tx_mn5 rfl (lv_at hl 0 rfl) ?_
  refine lv_goto (tgt := 10) hx hb tx_mn6 (by decide) ?_
  exact W.iret (v := 14) hx hb hr tx_end (fun _ h => by cases h) tx_mn10 hlk
theorem tx_b8' : ∀ n < 256, ∀ b ∈ am_txt 1, (b = (nI n).toInt8.toInt32 ↔ b = nI n) := by decide +kernel
theorem tx_b8 {ch b : Int32} (h0 : ¬ ch < 0) (h1 : ¬ 255 < ch) (hb : b ∈ am_txt 1) : b = ch.toInt8.toInt32 ↔ b = ch := by
  rw [Int32.lt_iff_toInt_lt] at h0 h1
  have e0 : (0 : Int32).toInt = 0 := rfl
  have e1 : (255 : Int32).toInt = 255 := rfl
  rw [e0] at h0
  rw [e1] at h1
  have e : nI ch.toInt.toNat = ch := by
    unfold nI
    rw [← Int32.ofInt_eq_ofNat, Int.toNat_of_nonneg (by omega), Int32.ofInt_toInt]
  have := tx_b8' ch.toInt.toNat (by omega) b hb
  rw [e] at this
  exact this
theorem tx_ixs : ∀ i < 14, (am_txt 1).drop i = (am_txt 1).getD i 0 :: (am_txt 1).drop (i + 1) ∧ (am_txt 1).getD i 0 ∈ am_txt 1 ∧ ¬ (14 : Int32) ≤ nI i ∧ ¬ (nI i < 0 ∨ 14 ≤ (nI i).toNatClampNeg) ∧ (nI i).toNatClampNeg = i ∧ nI i + Int32.ofInt 1 = nI (i + 1) := by decide +kernel
theorem tx_ixn {ch : Int32} : ∀ (l : List Int32) (k : Nat), (∀ b ∈ l, b ≠ ch) → am_ixF ch l k = -1
  | [], _, _ => rfl
  | b :: l, k, h => by
    unfold am_ixF
    rw [if_neg (h b List.mem_cons_self)]
    exact tx_ixn l (k + 1) (fun b hb => h b (List.mem_cons_of_mem _ hb))
theorem tx_ixo : ∀ b ∈ am_txt 1, ¬ b < 0 ∧ ¬ 255 < b := by decide
theorem tx_ic {ch : Int32} (l : Launch) (ad : Nat → Nat) (h0 : ¬ ch < 0) (h1 : ¬ 255 < ch) : tx_Met l ad tx_yic prog_18_method_23_code 6 (some .int) 0 [.ref (ad (1100000 + 1)), .int ch, .int 0, .int 14] (some (.int (am_ixF ch (am_txt 1) 0))) := by
  refine tx_of (by decide +kernel) (Nat.le_of_ble_eq_true rfl) ?_
  intro p e s m args below meth c ls ⟨hx, hb, hr, hml, hown, hts, hlk, hst⟩ hl
  have hT := (hst.1.1 1 (by decide)).2.2.2
  have hLp : ∀ (n i : Nat), i + n = 14 → ∀ ls : Array Slot, lv_has ls 6 [(5, .int (nI i)), (4, .int ch.toInt8.toInt32), (0, .ref (ad (1100000 + 1))), (1, .int ch), (2, .int 0), (3, .int 14)] → am_ixF ch ((am_txt 1).drop i) i = am_ixF ch (am_txt 1) 0 →
      W p l e (tx_rm 0) s m args below meth c s.heap [] 0 0 (MQ below (tx_Q (some (.int (am_ixF ch (am_txt 1) 0)))) args s 0 0 (fun _ => False)) (F0 m 7 ls []) := by
    intro n
    induction n with
    | zero =>
      intro i hi ls hl hR
      obtain rfl : i = 14 := by omega
      refine lv_iload hx hb tx_ic7 (lv_at hl 0 rfl) ?_
      refine lv_iload_n hx hb tx_ic9 rfl (lv_at hl 5 rfl) ?_
      refine lv_icmp_ge (tgt := 31) hx hb tx_ic10 (by decide) (fun _ => ?_) (fun z => absurd (by decide) z)
      refine lv_iconst (v := -1) hx hb tx_ic31 rfl ?_
      have e : am_ixF ch ((am_txt 1).drop 14) 14 = -1 := rfl
      rw [← hR, e]
      exact W.iret (v := -1) hx hb hr tx_end (fun _ h => by cases h) tx_ic32 hlk
    | succ n ih =>
      intro i hi ls hl hR
      obtain ⟨g1, g2, g3, g4, g5, g6⟩ := tx_ixs i (by omega)
      rw [g1] at hR
      replace hR : (if (am_txt 1).getD i 0 = ch then nI i else am_ixF ch ((am_txt 1).drop (i + 1)) (i + 1)) = am_ixF ch (am_txt 1) 0 := hR
      refine lv_iload hx hb tx_ic7 (lv_at hl 0 rfl) ?_
      refine lv_iload_n hx hb tx_ic9 rfl (lv_at hl 5 rfl) ?_
      refine lv_icmp_ge (tgt := 31) hx hb tx_ic10 (by decide) (fun z => absurd z g3) (fun _ => ?_)
      refine lv_aload_n hx hb tx_ic13 rfl (lv_at hl 2 rfl) ?_
      refine lv_iload hx hb tx_ic14 (lv_at hl 0 rfl) ?_
      refine va_tb hx hb hT va_S.rf g4 (v := .int ((am_txt 1).getD i 0)) (by rw [g5]; rfl) tx_ic16 ?_
      refine lv_iload hx hb tx_ic17 (lv_at hl 1 rfl) ?_
      refine lv_icmp_ne (tgt := 25) hx hb tx_ic19 (by decide) (fun z => ?_) (fun z => ?_)
      · rw [if_neg (fun w => z ((tx_b8 h0 h1 g2).mpr w))] at hR
        refine lv_iinc (k := 0) hx hb tx_ic25 hl rfl g6 (by decide) rfl (fun ls' hl' => ?_)
        refine lv_goto (tgt := 7) hx hb tx_ic28 (by decide) ?_
        exact ih (i + 1) (by omega) ls' hl' hR
      · rw [if_pos ((tx_b8 h0 h1 g2).mp z)] at hR
        refine lv_iload hx hb tx_ic22 (lv_at hl 0 rfl) ?_
        rw [← hR]
        exact W.iret (v := nI i) hx hb hr tx_end (fun _ h => by cases h) tx_ic24 hlk
  refine lv_iload_n hx hb tx_ic0 rfl (lv_at hl 1 rfl) ?_
  refine lv_i2b hx hb tx_ic1 rfl ?_
  refine lv_istore hx hb tx_ic2 hl (by decide) rfl (fun ls1 hl1 => ?_)
  refine lv_iload_n hx hb tx_ic4 rfl (lv_at hl1 3 rfl) ?_
  refine lv_istore hx hb tx_ic5 hl1 (by decide) rfl (fun ls2 hl2 => ?_)
  exact hLp 14 0 rfl ls2 hl2 rfl
theorem tx_li {ch : Int32} (l : Launch) (ad : Nat → Nat) : tx_Met l ad tx_yli prog_18_method_22_code 4 (some .int) 1 [.ref (ad (1100000 + 1)), .int ch, .int 0, .int 14] (some (.int (am_ixF ch (am_txt 1) 0))) := by
  refine tx_of (by decide +kernel) (Nat.le_of_ble_eq_true rfl) ?_
  intro p e s m args below meth c ls C hl
  have hfx := C.fix
  have hpr := C.pre
  obtain ⟨hx, hb, hr, hml, hown, hts, hlk, hst⟩ := C
  refine lv_iload_n hx hb tx_li0 rfl (lv_at hl 1 rfl) ?_
  by_cases hc : ch < 0 ∨ 255 < ch
  · refine tx_callS (As := [.int ch]) (rest := []) hfx hpr (tx_cen l ad hc) tx_w593 tx_w594 tx_w6 tx_w595 ⟨by decide, by decide, rfl⟩ ⟨by decide, by decide⟩ hl.1 (by decide) tx_li1 ⟨Nat.zero_le _, Nat.zero_le _⟩ (fun locs1 hlo => ?_)
    obtain rfl := tx_nil hlo
    refine lv_if_ne (tgt := 9) hx hb tx_li4 (by decide) (fun z => absurd rfl z) (fun _ => ?_)
    refine lv_iconst (v := -1) hx hb tx_li7 rfl ?_
    have e : am_ixF ch (am_txt 1) 0 = -1 := tx_ixn _ _ (fun b hb w => by
      have := tx_ixo b hb
      rw [w] at this
      exact hc.elim this.1 this.2)
    rw [e]
    exact W.iret (v := -1) hx hb hr tx_end (fun _ h => by cases h) tx_li8 hlk
  · have h0 : ¬ ch < 0 := fun z => hc (Or.inl z)
    have h1 : ¬ 255 < ch := fun z => hc (Or.inr z)
    refine tx_callS (As := [.int ch]) (rest := []) hfx hpr (tx_cey l ad h0 h1) tx_w593 tx_w594 tx_w6 tx_w595 ⟨by decide, by decide, rfl⟩ ⟨by decide, by decide⟩ hl.1 (by decide) tx_li1 ⟨Nat.zero_le _, Nat.zero_le _⟩ (fun locs1 hlo => ?_)
    obtain rfl := tx_nil hlo
    refine lv_if_ne (tgt := 9) hx hb tx_li4 (by decide) (fun _ => ?_) (fun z => absurd z (by decide))
    refine lv_iload_n hx hb tx_li9 rfl (lv_at hl 2 rfl) ?_
    refine lv_iconst (v := 0) hx hb tx_li10 rfl ?_
    refine tx_callS (As := [.int 0, .int 0]) (rest := []) hfx hpr (tx_max l ad) tx_w596 tx_w597 tx_w19 tx_w598 ⟨by decide, by decide, rfl⟩ ⟨by decide, by decide⟩ hl.1 (by decide) tx_li11 ⟨Nat.zero_le _, Nat.zero_le _⟩ (fun locs1 hlo => ?_)
    obtain rfl := tx_nil hlo
    refine lv_istore_n hx hb tx_li14 rfl hl (by decide) rfl (fun ls1 hl1 => ?_)
    refine lv_iload_n hx hb tx_li15 rfl (lv_at hl1 3 rfl) ?_
    refine lv_aload_n hx hb tx_li16 rfl (lv_at hl1 1 rfl) ?_
    refine va_tlen (v := 14) hx hb (hst.1.1 1 (by decide)).2.2.2 va_S.rf rfl tx_li17 ?_
    refine tx_callS (As := [.int 14, .int 14]) (rest := []) hfx hpr (tx_min l ad) tx_w599 tx_w600 tx_w19 tx_w601 ⟨by decide, by decide, rfl⟩ ⟨by decide, by decide⟩ hl1.1 (by decide) tx_li18 ⟨Nat.zero_le _, Nat.zero_le _⟩ (fun locs1 hlo => ?_)
    obtain rfl := tx_nil hlo
    refine lv_istore_n hx hb tx_li21 rfl hl1 (by decide) rfl (fun ls2 hl2 => ?_)
    refine lv_iload_n hx hb tx_li22 rfl (lv_at hl2 1 rfl) ?_
    refine lv_iload_n hx hb tx_li23 rfl (lv_at hl2 0 rfl) ?_
    refine lv_icmp_lt (tgt := 29) hx hb tx_li24 (by decide) (fun _ => ?_) (fun z => absurd (by decide) z)
    refine lv_aload_n hx hb tx_li29 rfl (lv_at hl2 2 rfl) ?_
    refine lv_iload_n hx hb tx_li30 rfl (lv_at hl2 3 rfl) ?_
    refine lv_iload_n hx hb tx_li31 rfl (lv_at hl2 1 rfl) ?_
    refine lv_iload_n hx hb tx_li32 rfl (lv_at hl2 0 rfl) ?_
    refine tx_callS (As := [.ref (ad (1100000 + 1)), .int ch, .int 0, .int 14]) (rest := []) hfx hpr (tx_ic l ad h0 h1) tx_w602 tx_w603 tx_w6 tx_w604 ⟨by decide, by decide, rfl⟩ ⟨by decide, by decide⟩ hl2.1 (by decide) tx_li33 ⟨Nat.zero_le _, Nat.zero_le _⟩ (fun locs1 hlo => ?_)
    obtain rfl := tx_nil hlo
    exact W.iret hx hb hr tx_end (fun _ h => by cases h) tx_li36 hlk
theorem tx_le (l : Launch) (ad : Nat → Nat) : tx_Met l ad tx_yle prog_17_method_54_code 1 (some .int) 1 [.ref (ad (1000000 + 1))] (some (.int 14)) := by
  refine tx_of (by decide +kernel) (Nat.le_of_ble_eq_true rfl) ?_
  intro p e s m args below meth c ls C hl
  have hfx := C.fix
  have hpr := C.pre
  obtain ⟨hx, hb, hr, hml, hown, hts, hlk, hst⟩ := C
  refine lv_aload_n hx hb tx_le0 rfl (lv_at hl 0 rfl) ?_
  refine vk_getf hx hb (hst.1.1 1 (by decide)).2.2.1 va_S.rf hown (hts _ tx_w2083) (fun _ h => h) tx_le1 ?_
  refine va_tlen (v := 14) hx hb (hst.1.1 1 (by decide)).2.2.2 va_S.rf rfl tx_le4 ?_
  refine lv_aload_n hx hb tx_le5 rfl (lv_at hl 0 rfl) ?_
  refine tx_callV (k := 1) (As := []) (rest := [.int 14]) hfx hpr (by decide) (tx_cell hst (by decide)) (tx_coder l ad (by decide)) tx_w586 tx_w587 tx_w588 tx_w589 tx_w5 ⟨rfl, by decide, by decide, rfl⟩ ⟨by decide, by decide⟩ hl.1 (by decide) tx_le6 ⟨Nat.zero_le _, Nat.zero_le _⟩ (fun locs1 hlo => ?_)
  obtain rfl := tx_nil hlo
  refine lv_ishr hx hb tx_le9 ?_
  have e : (14 : Int32) >>> ((0 : Int32) &&& 31) = 14 := by decide
  rw [e]
  exact W.iret (v := 14) hx hb hr tx_end (fun _ h => by cases h) tx_le10 hlk
theorem tx_i2 {ch : Int32} (l : Launch) (ad : Nat → Nat) : tx_Met l ad tx_yi2 prog_17_method_80_code 3 (some .int) 2 [.ref (ad (1000000 + 1)), .int ch, .int 0] (some (.int (am_ixF ch (am_txt 1) 0))) := by
  refine tx_of (by decide +kernel) (Nat.le_of_ble_eq_true rfl) ?_
  intro p e s m args below meth c ls C hl
  have hfx := C.fix
  have hpr := C.pre
  obtain ⟨hx, hb, hr, hml, hown, hts, hlk, hst⟩ := C
  refine lv_aload_n hx hb tx_i20 rfl (lv_at hl 0 rfl) ?_
  refine tx_callV (k := 1) (As := []) (rest := []) hfx hpr (by decide) (tx_cell hst (by decide)) (tx_isL l ad (by decide)) tx_w182 tx_w183 tx_w184 tx_w185 tx_w5 ⟨rfl, by decide, by decide, rfl⟩ ⟨by decide, by decide⟩ hl.1 (by decide) tx_i21 ⟨Nat.zero_le _, Nat.zero_le _⟩ (fun locs1 hlo => ?_)
  obtain rfl := tx_nil hlo
  refine lv_if_eq (tgt := 23) hx hb tx_i24 (by decide) (fun z => absurd z (by decide)) (fun _ => ?_)
  refine lv_aload_n hx hb tx_i27 rfl (lv_at hl 0 rfl) ?_
  refine vk_getf hx hb (hst.1.1 1 (by decide)).2.2.1 va_S.rf hown (hts _ tx_w2083) (fun _ h => h) tx_i28 ?_
  refine lv_iload_n hx hb tx_i211 rfl (lv_at hl 1 rfl) ?_
  refine lv_iload_n hx hb tx_i212 rfl (lv_at hl 2 rfl) ?_
  refine lv_aload_n hx hb tx_i213 rfl (lv_at hl 0 rfl) ?_
  refine tx_callV (k := 1) (As := []) (rest := [.int 0, .int ch, .ref (ad (1100000 + 1))]) hfx hpr (by decide) (tx_cell hst (by decide)) (tx_le l ad) tx_w582 tx_w583 tx_w584 tx_w585 tx_w5 ⟨rfl, by decide, by decide, rfl⟩ ⟨by decide, by decide⟩ hl.1 (Nat.le_of_ble_eq_true rfl) tx_i214 ⟨Nat.zero_le _, Nat.zero_le _⟩ (fun locs1 hlo => ?_)
  obtain rfl := tx_nil hlo
  refine tx_callS (As := [.ref (ad (1100000 + 1)), .int ch, .int 0, .int 14]) (rest := []) hfx hpr (tx_li l ad) tx_w590 tx_w591 tx_w6 tx_w592 ⟨by decide, by decide, rfl⟩ ⟨by decide, by decide⟩ hl.1 (by decide) tx_i217 ⟨Nat.zero_le _, Nat.zero_le _⟩ (fun locs1 hlo => ?_)
  obtain rfl := tx_nil hlo
  refine lv_goto (tgt := 36) hx hb tx_i220 (by decide) ?_
  exact W.iret hx hb hr tx_end (fun _ h => by cases h) tx_i236 hlk
theorem tx_ix {ch : Int32} (l : Launch) (ad : Nat → Nat) : tx_Met l ad tx_yi1 prog_17_method_79_code 2 (some .int) 3 [.ref (ad (1000000 + 1)), .int ch] (some (.int (am_ixF ch (am_txt 1) 0))) := by
  refine tx_of (by decide +kernel) (Nat.le_of_ble_eq_true rfl) ?_
  intro p e s m args below meth c ls C hl
  have hfx := C.fix
  have hpr := C.pre
  obtain ⟨hx, hb, hr, hml, hown, hts, hlk, hst⟩ := C
  refine lv_aload_n hx hb tx_i10 rfl (lv_at hl 0 rfl) ?_
  refine lv_iload_n hx hb tx_i11 rfl (lv_at hl 1 rfl) ?_
  refine lv_iconst (v := 0) hx hb tx_i12 rfl ?_
  refine tx_callV (k := 1) (As := [.int ch, .int 0]) (rest := []) hfx hpr (by decide) (tx_cell hst (by decide)) (tx_i2 l ad) tx_w578 tx_w579 tx_w580 tx_w581 tx_w5 ⟨rfl, by decide, by decide, rfl⟩ ⟨by decide, by decide⟩ hl.1 (by decide) tx_i13 ⟨Nat.zero_le _, Nat.zero_le _⟩ (fun locs1 hlo => ?_)
  obtain rfl := tx_nil hlo
  exact W.iret hx hb hr tx_end (fun _ h => by cases h) tx_i16 hlk
end TXW
section STX
variable {p : Program} {l : Launch} {e : Env} {R : Room} {s : State} {m : MethodId} {args : Array Value} {below : List Frame} {meth : Method} {c : Code} {D : va_G} {cid : Nat → ClassId} {ad : Nat → Nat} {A : Nat → Prop} {Q : State → Prop}
variable {mi pc : Nat} {f : Nat → List Value → List Value → am_M → am_O} {L st : List Value} {M M' M0 M1 : am_M} {r r0 : Option Value} {H : Heap} {locs : List Loc} {ls : Array Slot} {k d : Nat} {q : List Value}
theorem tx_up (hRO : am_RO ad A s s.heap) (hI : am_I D cid ad A s mi M0 M H locs ls L) : am_Str ad A s H := hRO.2.2.2.2.1.kept hI.2.2.1.2.1
theorem tx_upU (hRO : am_RO ad A s s.heap) (hI : am_I D cid ad A s mi M0 M H locs ls L) : ∀ U : State, U.heap = H → s.WarmedH U.vm → tx_P ad U := by
  intro U hU hW
  unfold tx_P
  rw [hU]
  exact ((tx_up hRO hI).moved hW.alike).narrow (fun _ h => h.elim)
theorem tx_upC (hRO : am_RO ad A s s.heap) (hI : am_I D cid ad A s mi M0 M H locs ls L) (hk : k < 2) : ∃ cell : Cell, H[ad (1000000 + k)]? = some cell ∧ cell.vm.isStatics = false ∧ s.vm.findClass "java/lang/String" = some cell.cls := by
  obtain ⟨cell, h1, h2, h3, -⟩ := ((tx_up hRO hI).1.1 k hk).1
  exact ⟨cell, h1, h2, h3⟩
theorem tx_upL {locs1 : List Loc} (hI : am_I D cid ad A s mi M0 M H locs ls L) (h : ∀ x ∈ locs1, x ∈ locs) : am_I D cid ad A s mi M0 M H locs1 ls L := ⟨hI.1, hI.2.1, ⟨hI.2.2.1.1, hI.2.2.1.2.1, fun x hx => hI.2.2.1.2.2 x (h x hx)⟩, hI.2.2.2⟩
theorem tx_fit (hR : am_Rm R d M0 M1) (hgw : am_gw M0 M) (hg1 : am_gw M M1) : M.2.2.2.2.1 - M0.2.2.2.2.1 ≤ R.cells ∧ M.2.2.2.2.2 - M0.2.2.2.2.2 ≤ R.slots := by
  rw [hR.2.2.1, hR.2.2.2]
  have := hgw.1; have := hgw.2; have := hg1.1; have := hg1.2
  exact ⟨by omega, by omega⟩
theorem tx_room (hR : am_Rm R d M0 M1) : 3 + 1 ≤ R.frames ∧ 8 + (2 + 11) + 40 * 3 ≤ R.locals := by
  rw [hR.1, hR.2.1]
  omega
theorem tx_fix (C : am_Cx p R s m args meth c mi) (ho : am_own mi = 9) : CallFix p m c (am_c mi) (am_ml mi) s args am_W "TyreWorks$Text" := by
  obtain ⟨hx, hb, hr, hml, hown, hts, -⟩ := C
  rw [ho] at hown
  exact ⟨hx, hb, hml, hown, hts⟩
theorem tx_in {i : Int32} (h0 : 0 ≤ i.toInt) (h1 : i.toInt < 192) : ¬ i < 0 ∧ i < 192 ∧ vp_in i 192 := by
  have a : ¬ i < 0 := by
    rw [Int32.lt_iff_toInt_lt]
    exact Int.not_lt.mpr h0
  have b : i < 192 := by
    rw [Int32.lt_iff_toInt_lt]
    exact h1
  refine ⟨a, b, ?_⟩
  rintro (z | z)
  · exact a z
  · have : i.toNatClampNeg = i.toInt.toNat := rfl
    omega
theorem am_s_charAt (C : am_Cx p R s m args meth c mi) (hRO : am_RO ad A s s.heap) (hR : am_Rm R d M0 M1) (kf : am_kf p l e R s m args below meth c D cid ad A Q mi f M0 M1 r) (hI : am_I D cid ad A s mi M0 M H locs ls L) {idx : Nat} {i : Int32} (hd : decode (am_c mi) pc = .ok (.invokevirtual idx, 3)) (ho : am_own mi = 9) (hi : idx = 31) (h0 : 0 ≤ i.toInt) (h1 : i.toInt < 192) (hc : am_cats q ≤ 8) (hg1 : am_gw M M1) (h : f (pc + 3) L (.int ((am_txt 0).getD i.toNatClampNeg 0) :: q) M = some (r, M1)) :
    W p l e R s m args below meth c H locs (M.2.2.2.2.1 - M0.2.2.2.2.1) (M.2.2.2.2.2 - M0.2.2.2.2.2) Q (F0 m pc ls (.int i :: .ref (ad 1000000) :: q.map (am_tv ad))) := by
  subst hi
  exact tx_callV (k := 0) (As := [.int i]) (rest := q.map (am_tv ad)) (tx_fix C ho) (tx_upU hRO hI) (by decide) (tx_upC hRO hI (by decide)) (tx_ca l ad (tx_in h0 h1)) tx_w178 tx_w179 tx_w180 tx_w181 tx_w5 ⟨rfl, by decide, by decide, rfl⟩ (tx_room hR) hI.2.2.2.1.1 (by show (List.map (fun v => v.category) (List.map (am_tv ad) q)).sum ≤ 8; rw [am_cats_tv]; exact hc) hd (tx_fit hR hI.2.2.2.2.2.2 hg1) (fun locs1 hlo => kf _ _ _ _ h _ _ _ (tx_upL hI hlo))
theorem am_s_indexOf (C : am_Cx p R s m args meth c mi) (hRO : am_RO ad A s s.heap) (hR : am_Rm R d M0 M1) (kf : am_kf p l e R s m args below meth c D cid ad A Q mi f M0 M1 r) (hI : am_I D cid ad A s mi M0 M H locs ls L) {idx : Nat} {ch : Int32} (hd : decode (am_c mi) pc = .ok (.invokevirtual idx, 3)) (ho : am_own mi = 9) (hi : idx = 109) (hc : am_cats q ≤ 8) (hg1 : am_gw M M1) (h : f (pc + 3) L (.int (am_ixF ch (am_txt 1) 0) :: q) M = some (r, M1)) :
    W p l e R s m args below meth c H locs (M.2.2.2.2.1 - M0.2.2.2.2.1) (M.2.2.2.2.2 - M0.2.2.2.2.2) Q (F0 m pc ls (.int ch :: .ref (ad 1000001) :: q.map (am_tv ad))) := by
  subst hi
  exact tx_callV (k := 1) (As := [.int ch]) (rest := q.map (am_tv ad)) (tx_fix C ho) (tx_upU hRO hI) (by decide) (tx_upC hRO hI (by decide)) (tx_ix l ad) tx_w574 tx_w575 tx_w576 tx_w577 tx_w5 ⟨rfl, by decide, by decide, rfl⟩ (tx_room hR) hI.2.2.2.1.1 (by show (List.map (fun v => v.category) (List.map (am_tv ad) q)).sum ≤ 8; rw [am_cats_tv]; exact hc) hd (tx_fit hR hI.2.2.2.2.2.2 hg1) (fun locs1 hlo => kf _ _ _ _ h _ _ _ (tx_upL hI hlo))
end STX
