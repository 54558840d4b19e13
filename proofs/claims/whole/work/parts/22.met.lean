/-! THE CONTRACT OF A RUN: what the abstract machine answers, the method answers. -/
/-- a method's contract by a walk of its body, its class plainly named or not -/
theorem am_ofW {l : Launch} {y : MethodName} {ws ws' : List Cond} {rm : Room} {Pc : Array Value → State → Prop} {Qc : Array Value → State → Outcome → State → Prop} {mc ms : Nat} {free : Addr → Prop} {cc : ByteArray} {maxL : Nat} {ret : Option FieldType}
    (hy : plainFor y = true) (hw : ws = Cond.code y cc maxL ret :: ws')
    (body : ∀ p e s m args below meth c s₁, BodyLoose p l y (headSpec ws rm) cc maxL ret e s m args below meth c s₁ → c.maxLocals = maxL → Pc args s →
      W p l e (headSpec ws rm).room s m args below meth c s.heap [] 0 0 (MQ below Qc args s mc ms free) (entryFrame m args maxL)) : Met l y ws rm Pc Qc mc ms free := by
  refine MetFree.of_bodySF (code := cc) (maxLocals := maxL) (ret := ret) hy ?_ ?_
  · intro args s m h hn
    obtain ⟨meth, c, h1, h2, h3, h4, h5, h6, -, -⟩ := Cond.code_spec hn (atoms_spec (ws := ws) h _ (by rw [hw]; exact List.mem_cons_self))
    exact ⟨meth, c, h1, h2, h3, h4, h5, h6⟩
  · intro p e s m args below meth c s₁ B hml hP _
    have hh0 : s₁.heap = s.heap := by rw [B.state]; rfl
    obtain ⟨t, a1, o, b1, b2, b3⟩ := body p e s m args below meth c s₁ B hml hP s₁ hh0 (Stand.of_body B)
    exact ⟨t, o, a1, b1, b2, ⟨b3.1, b3.2⟩⟩
theorem am_spread_sl (ad : Nat → Nat) : ∀ as : List Value, (am_spread as).length = (lg_sl (as.map (am_tv ad))).length ∧ ∀ (i : Nat) (v : Value), (am_spread as)[i]? = some v → (∀ q, v ≠ .retAddr q) → (lg_sl (as.map (am_tv ad)))[i]? = some (.val (am_tv ad v))
  | [] => ⟨rfl, fun i v h => by simp [am_spread] at h⟩
  | a :: as => by
    obtain ⟨h1, h2⟩ := am_spread_sl ad as
    have e : lg_sl ((a :: as).map (am_tv ad)) = (if (am_tv ad a).category = 2 then [Slot.val (am_tv ad a), .second] else [.val (am_tv ad a)]) ++ lg_sl (as.map (am_tv ad)) := rfl
    rw [e, am_tv_cat]
    by_cases hc : a.category = 2
    · have e2 : am_spread (a :: as) = a :: am_un :: am_spread as := by simp [am_spread, hc]
      rw [e2, if_pos hc]
      refine ⟨by simp [h1], fun i v h hv => ?_⟩
      match i, h with
      | 0, h => cases h; rfl
      | 1, h => cases h; exact absurd rfl (hv 0)
      | i + 2, h => exact h2 i v h hv
    · have e2 : am_spread (a :: as) = a :: am_spread as := by simp [am_spread, hc]
      rw [e2, if_neg hc]
      refine ⟨by simp [h1], fun i v h hv => ?_⟩
      match i, h with
      | 0, h => cases h; rfl
      | i + 1, h => exact h2 i v h hv
theorem am_entry (ad : Nat → Nat) {as : List Value} {n : Nat} (h : (am_spread as).length ≤ n) : am_lh ad ((lg_sl (as.map (am_tv ad)) ++ List.replicate (n - (lg_sl (as.map (am_tv ad))).length) Slot.unset).toArray) n (am_pad n (am_spread as)) := by
  obtain ⟨h1, h2⟩ := am_spread_sl ad as
  have he := lv_entry (as.map (am_tv ad)) (n := n) (by rw [← h1]; exact h)
  refine ⟨he.1, he.2.1, fun i v hv hq => ?_⟩
  unfold am_pad at hv
  by_cases hi : i < (am_spread as).length
  · rw [List.getElem?_append_left hi] at hv
    rw [List.getElem?_toArray, List.getElem?_append_left (by rw [← h1]; exact hi)]
    exact h2 i v hv hq
  · rw [List.getElem?_append_right (by omega)] at hv
    have := List.mem_of_getElem? hv
    rw [List.mem_replicate] at this
    exact absurd this.2 (hq 0)
/-- the machine's fuel: a run of a method by its body -/
theorem am_body {p : Program} {l : Launch} {e : Env} {R : Room} {s : State} {m : MethodId} {args : Array Value} {below : List Frame} {meth : Method} {c : Code} {D : va_G} {cid : Nat → ClassId} {ad : Nat → Nat} {A : Nat → Prop} {Q : State → Prop} {mi d : Nat} {g : Nat → List Value → am_M → am_O} {M0 M1 : am_M} {r : Option Value}
    (C : am_Cx p R s m args meth c mi) (hK : va_K D vwCl (am_tys cid) s) (hRO : am_RO ad A s s.heap) (hA : ∀ q, s.heap.size ≤ q → A q) (hal : ∀ k, M0.2.2.2.2.1 ≤ k → k < M1.2.2.2.2.1 → ad k = s.heap.size + (k - M0.2.2.2.2.1)) (hR : am_Rm R d M0 M1)
    (hg : ∀ a as M v M', a < 293 → g a as M = some (v, M') → am_Met l D cid ad d a as M v M' ∧ am_gw M M') (hgg : ∀ a as M v M', g a as M = some (v, M') → am_gw M M') (hQ : Q = MQ below (am_Post D cid ad s.heap.size M0 r M1) args s (M1.2.2.2.2.1 - M0.2.2.2.2.1) (M1.2.2.2.2.2 - M0.2.2.2.2.2) (va_A (am_ws cid ad M0) s.heap.size)) (hAe : A = va_A (am_ws cid ad M0) s.heap.size) :
    ∀ n, am_kf p l e R s m args below meth c D cid ad A Q mi (am_ex g mi n) M0 M1 r := by
  intro n
  induction n with
  | zero => intro pc L st M h; cases h
  | succ n ih =>
    intro pc L st M h H locs ls hI
    change am_st g mi (am_ex g mi n) pc L st M = some (r, M1) at h
    have hmi := C.2.2.2.2.2.2.2.2.1
    have hgf : ∀ pc L st M, am_ex g mi n pc L st M = some (r, M1) → am_gw M M1 := fun pc L st M h => am_gx hgg mi n pc L st M r M1 h
    unfold am_st at h
    cases hpc : Nat.blt pc (am_sz mi) with
    | false =>
      have he : am_ent mi pc = am_bad := by unfold am_ent; rw [hpc]; rfl
      rw [he] at h
      cases h
    | true =>
      have he : am_ent mi pc = am_tab mi pc := by unfold am_ent; rw [hpc]; rfl
      rw [he] at h
      have hokc := am_okm mi hmi pc (Nat.le_of_ble_eq_true hpc)
      unfold am_okc at hokc
      simp only [Bool.or_eq_true, Bool.and_eq_true, decide_eq_true_eq] at hokc
      rcases hokc with z | z
      · have hz := am_zm mi hmi pc (Nat.le_of_ble_eq_true hpc)
        rw [z] at hz
        have hz2 : am_isNop (am_tab mi pc).1 = true := hz
        have hn : (am_tab mi pc).1 = .nop := by
          unfold am_isNop at hz2
          split at hz2
          · assumption
          · cases hz2
        unfold am_step at h
        rw [hn] at h
        cases h
      · exact am_snd C hK hRO hA hal hR ih hI z.1.1 (z.1.2.imp id (fun w => Nat.eq_of_beq_eq_true w)) z.2 hgf hg hQ hAe h
theorem am_spl : ∀ mi, mi < 293 → am_np mi + (if am_sk mi = 0 then 0 else 1) ≤ am_ml mi := by decide +kernel
theorem am_sound (l : Launch) (D : va_G) (cid : Nat → ClassId) (ad : Nat → Nat) : ∀ (d a : Nat) (as : List Value) (M : am_M) (r : Option Value) (M' : am_M), a < 293 → am_G (am_ev d) a as M = some (r, M') → am_Met l D cid ad (d + 1) a as M r M' := by
  have key : ∀ (d : Nat) (g : Nat → List Value → am_M → am_O), (∀ a as M v M', a < 293 → g a as M = some (v, M') → am_Met l D cid ad d a as M v M' ∧ am_gw M M') → (∀ a as M v M', g a as M = some (v, M') → am_gw M M') → ∀ (a : Nat) (as : List Value) (M : am_M) (r : Option Value) (M' : am_M), a < 293 → (am_spread as).length ≤ am_ml a → am_run g a 0 (am_pad (am_ml a) (am_spread as)) [] M = some (r, M') → am_Met l D cid ad (d + 1) a as M r M' := by
    intro d g hg hgg a as M r M' ha hsp hrun sz
    obtain ⟨n, hn⟩ := am_run_iff.mp hrun
    refine am_ofW (cc := am_c a) (maxL := am_ml a) (ret := am_rt a) (am_yc6 a ha) rfl ?_
    intro p e s m args below meth c s₁ B hml hv
    obtain ⟨rfl, hsz, hP, hK, hD0, hokS, hRO, hal⟩ := hv
    have hts0 := atoms_spec (ws := am_wsm a) B.pre
    have hown : s.vm.findClass (am_cn (am_own a)) = some m.cls := by rw [← am_yc1 a ha]; exact findClass_of_methodNamed B.named
    subst hsz
    have C : am_Cx p (am_rm (d + 1) M M') s m ((as.map (am_tv ad)).toArray) meth c a := ⟨B.exec, B.bytes, B.returns, hml, hown, fun w hw => hts0 w (List.mem_cons_of_mem _ hw), B.notSynchronized, (name_of_methodNamed B.named B.method).1, ha, by show 8 ≤ d + 1 + 8; omega, by show 320 ≤ 40 * (d + 1 + 8); omega⟩
    have hR : am_Rm (am_rm (d + 1) M M') d M M' := ⟨by show d + 1 + 8 = d + 9; omega, by show 40 * (d + 1 + 8) = 40 * (d + 9); omega, rfl, rfl⟩
    have hb := am_body (e := e) (below := below) (Q := MQ below (am_Post D cid ad s.heap.size M r M') ((as.map (am_tv ad)).toArray) s (M'.2.2.2.2.1 - M.2.2.2.2.1) (M'.2.2.2.2.2 - M.2.2.2.2.2) (va_A (am_ws cid ad M) s.heap.size)) C hK hRO (fun q h => Or.inr h) hal hR hg hgg rfl rfl n
    rw [lg_entry_eq]
    have := hb 0 _ [] M hn s.heap [] _ ⟨hP, hD0.self, va_S.rf, am_entry ad hsp, hokS, by omega, Nat.le_refl _, Nat.le_refl _⟩
    rw [Nat.sub_self, Nat.sub_self] at this
    exact this
  intro d
  induction d with
  | zero =>
    intro a as M r M' ha h
    obtain ⟨h1, h2⟩ := am_G_some h
    exact key 0 _ (fun _ _ _ _ _ _ h => by cases h) (fun _ _ _ _ _ h => by cases h) a as M r M' ha h1 h2
  | succ d ih =>
    intro a as M r M' ha h
    obtain ⟨h1, h2⟩ := am_G_some h
    exact key (d + 1) (am_G (am_ev d)) (fun a as M v M' ha h => ⟨ih a as M v M' ha h, am_gev d a 0 _ [] M v M' (am_G_some h).2⟩) (fun a as M v M' h => am_gev d a 0 _ [] M v M' (am_G_some h).2) a as M r M' ha h1 h2
