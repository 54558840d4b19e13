/-! new int[n][m] is sound -/
section SMU
variable {p : Program} {l : Launch} {e : Env} {R : Room} {s : State} {m : MethodId} {args : Array Value} {below : List Frame} {meth : Method} {c : Code} {D : va_G} {cid : Nat → ClassId} {ad : Nat → Nat} {A : Nat → Prop} {Q : State → Prop}
variable {mi pc : Nat} {f : Nat → List Value → List Value → am_M → am_O} {L st : List Value} {M M' M0 M1 : am_M} {r r0 : Option Value} {H : Heap} {locs : List Loc} {ls : Array Slot} {k d : Nat} {q : List Value}
theorem am_outer (c : ClassId) (N h0 : Nat) : ∀ i : Nat, Jvm.Free.Multi.outerC c N h0 i = arrV c N (fun j => va_rf (if j < i then some (h0 + 1 + j) else none))
  | 0 => by
    show ({ cls := c, slots := Array.replicate N .null, vm := .none } : Cell) = _
    rw [arrV_new]
    exact congrArg (arrV c N) (funext fun j => by simp [va_rf])
  | i + 1 => by
    show (Jvm.Free.Multi.outerC c N h0 i).setSlot i (.ref (h0 + 1 + i)) = _
    rw [am_outer c N h0 i, arrV_store]
    refine congrArg (arrV c N) (funext fun j => ?_)
    by_cases e : j = i
    · subst e; simp [updV, va_rf]
    · by_cases h : j < i
      · simp [updV, e, h, Nat.lt_succ_of_lt h]
      · simp [updV, e, h, show ¬ j < i + 1 by omega]
theorem am_s_multi (C : am_Cx p R s m args meth c mi) (hK : va_K D vwCl (am_tys cid) s) (hRO : am_RO ad A s s.heap) (hA : ∀ q, s.heap.size ≤ q → A q) (hal : ∀ k, M0.2.2.2.2.1 ≤ k → k < M1.2.2.2.2.1 → ad k = s.heap.size + (k - M0.2.2.2.2.1)) (hR : am_Rm R d M0 M1) (kf : am_kf p l e R s m args below meth c D cid ad A Q mi f M0 M1 r) (hI : am_I D cid ad A s mi M0 M H locs ls L)
    {n k : Int32} (hd : decode (am_c mi) pc = .ok (.multianewarray 15 2, 4)) (ho : am_own mi = 6) (hn : ¬ n < 0) (hk : ¬ k < 0) (hn2 : n.toNatClampNeg ≤ 1000) (hk2 : k.toNatClampNeg ≤ 1000) (hg1 : am_gw (am_al2 M n.toNatClampNeg k.toNatClampNeg) M1) (h : f (pc + 4) L (.ref M.2.2.2.2.1 :: q) (am_al2 M n.toNatClampNeg k.toNatClampNeg) = some (r, M1)) :
    W p l e R s m args below meth c H locs (M.2.2.2.2.1 - M0.2.2.2.2.1) (M.2.2.2.2.2 - M0.2.2.2.2.2) Q (F0 m pc ls (.int k :: .int n :: q.map (am_tv ad))) := by
  refine am_eqW (fun hz => ?_)
  have hcl : (Cond.classLink (am_cn (am_own mi)) 15 ("[" ++ (FieldType.array .int).toString)).before args s = true := by
    rw [ho]; exact am_word C.2.2.2.2.2.1 am_wMA rfl
  obtain ⟨hx, hb, -, -, hown, hts, -⟩ := C
  have hov : (Cond.arrayOver (.array .int)).before args s = true := hRO.2.2.2.2.2.2 (.array .int) (by decide)
  obtain ⟨hP, hD, hS, hl, hok, hsz, hgw⟩ := hI
  generalize hN : n.toNatClampNeg = N at *
  generalize hKK : k.toNatClampNeg = K at *
  have hg11 : M.2.2.2.2.1 + 1 + N ≤ M1.2.2.2.2.1 := hg1.1
  have hg12 : M.2.2.2.2.2 + (N + N * K) ≤ M1.2.2.2.2.2 := hg1.2
  have hgw1 := hgw.1
  have hgw2 := hgw.2
  have had : ∀ j, j ≤ N → ad (M.2.2.2.2.1 + j) = H.size + j := fun j hj => by rw [hal _ (by omega) (by omega)]; omega
  intro T hT X
  obtain ⟨vm₁, cA, comp, -, fA, fC, hO, -, X', step⟩ := X.multianewarray2F hx hown hcl hov (am_word hts am_wAI rfl) (g := F0 m pc ls (.int k :: .int n :: q.map (am_tv ad))) rfl (by rw [hb]; exact hd) rfl hn hk (by omega) (by show _ * 4 ≤ _; omega) (by omega) rfl rfl (by rw [hR.2.2.1, hN]; omega) (by rw [hR.2.2.2, hN, hKK]; omega)
  rw [hN, hKK] at X' step
  generalize hF : Jvm.Free.Multi.fill (T.setVm vm₁) cA comp N K (defaultValue .int) N = F at X' step
  have hTh : (T.setVm vm₁).heap = H := hT
  obtain ⟨f1, f2, -, -⟩ := Jvm.Free.Multi.fill_facts (T.setVm vm₁) cA comp N K (defaultValue .int) N
  rw [hF, hTh] at f1 f2
  have hold : ∀ x : Nat, x < H.size → F.heap[x]? = H[x]? := fun x hx => by
    have := Jvm.Free.Multi.fill_old (T.setVm vm₁) cA comp N K (defaultValue .int) (a := x) (by rw [hTh]; exact hx) N
    rw [hF, hTh] at this
    exact this
  have hrow : ∀ j : Nat, j < N → F.heap[H.size + 1 + j]? = some (arrV comp K (fun _ => .int 0)) := fun j hj => by
    have := Jvm.Free.Multi.fill_inner (T.setVm vm₁) cA comp N K (defaultValue .int) N j hj
    rw [hF, hTh] at this
    rw [this]
    show some ({ cls := comp, slots := Array.replicate K (.int 0), vm := .none } : Cell) = _
    rw [arrV_new]
  rw [am_outer] at f2
  have hcA : cA = cid 27 := Option.some.inj (fA.symm.trans (hK.2 7 _ rfl).2)
  have hcc : comp = cid 20 := Option.some.inj (fC.symm.trans (hK.2 0 _ rfl).2)
  subst hcA
  subst hcc
  have hS2 : ∀ i, i < M.2.2.2.2.1 → (am_al2 M N K).2.2.2.1 i = M.2.2.2.1 i := fun i hi => by
    simp only [am_al2]
    rw [if_neg (by omega), if_neg (by omega)]
  have hws : am_ws cid ad (am_al2 M N K) = am_ws cid ad M ++ ((List.range (1 + N)).map fun j => (H.size + j, am_wE cid ad (am_al2 M N K) (M.2.2.2.2.1 + j))) := by
    show (List.range (M.2.2.2.2.1 + 1 + N)).map _ = _
    rw [Nat.add_assoc, List.range_add, List.map_append, List.map_map]
    congr 1
    · refine List.map_congr_left (fun i hi => ?_)
      have hi2 := List.mem_range.mp hi
      have e1 : ¬ (M.2.2.2.2.1 ≤ i ∧ i ≤ M.2.2.2.2.1 + N) := by omega
      have e2 : ¬ i = M.2.2.2.2.1 := by omega
      rw [am_wE_congr (M := M) (M' := am_al2 M N K) (fun j => by simp only [am_al2, if_neg e1]) (fun j => by simp only [am_al2, if_neg e1]) (fun j => by simp only [am_al2, if_neg e1, if_neg e2]) (hS2 i hi2)]
    · refine List.map_congr_left (fun j hj => ?_)
      have hj2 := List.mem_range.mp hj
      show (ad (M.2.2.2.2.1 + j), _) = _
      rw [had j (by omega)]
  have hP' : va_P D vwCl (am_ws cid ad M) F.heap := hP.kept (fun k x hx => hold x.1 ((hP k x hx).lt))
  have hat : ∀ j, j < 1 + N → va_at D vwCl (H.size + j, am_wE cid ad (am_al2 M N K) (M.2.2.2.2.1 + j)) F.heap := fun j hj => by
    by_cases hj0 : j = 0
    · subst hj0
      have e1 : (am_al2 M N K).2.2.2.1 (M.2.2.2.2.1 + 0) = (27, N) := by simp [am_al2]
      rw [am_wE_q (kd := 27) (by rw [e1]) (by omega), e1]
      show F.heap[H.size]? = _
      rw [f2]
      show some (arrV (cid 27) N fun j => va_rf (if j < N then some (Array.size H + 1 + j) else none)) = some (arrV (cid 27) N fun j => va_rf (((am_al2 M N K).2.2.1 (M.2.2.2.2.1 + 0) j).map ad))
      congr 2
      funext b
      have : (am_al2 M N K).2.2.1 (M.2.2.2.2.1 + 0) b = if b < N then some (M.2.2.2.2.1 + 1 + b) else none := by simp [am_al2]
      rw [this]
      by_cases hb2 : b < N
      · rw [if_pos hb2, if_pos hb2]
        have := had (1 + b) (by omega)
        simp only [Option.map_some]
        rw [show M.2.2.2.2.1 + 1 + b = M.2.2.2.2.1 + (1 + b) by omega, this, show H.size + 1 + b = H.size + (1 + b) by omega]
      · rw [if_neg hb2, if_neg hb2]; rfl
    · have e1 : (am_al2 M N K).2.2.2.1 (M.2.2.2.2.1 + j) = (20, K) := by
        simp only [am_al2]
        rw [if_neg (by omega), if_pos (by omega)]
      have e2 : (am_al2 M N K).1 (M.2.2.2.2.1 + j) = fun _ => 0 := by
        funext b
        simp only [am_al2]
        rw [if_pos (by omega)]
      rw [am_wE_i (by rw [e1]), e1, e2]
      show F.heap[H.size + j]? = _
      rw [show H.size + j = H.size + 1 + (j - 1) by omega, hrow (j - 1) (by omega)]
      rfl
  have hI' : am_I D cid ad A s mi M0 (am_al2 M N K) F.heap locs ls L := by
    refine ⟨?_, ?_, ⟨by rw [f1]; have := hS.1; omega, fun x h1 h2 => (hold x (Nat.lt_of_lt_of_le h1 hS.1)).trans (hS.2.1 x h1 h2), hS.2.2⟩, hl, ?_, ?_, ⟨Nat.le_trans hgw.1 (by show _ ≤ _ + 1 + _; omega), Nat.le_trans hgw.2 (Nat.le_add_right _ _)⟩⟩
    · rw [hws]
      refine hP'.app (fun k x hx => ?_)
      have hlen := (List.getElem?_eq_some_iff.mp hx).1
      rw [List.length_map, List.length_range] at hlen
      rw [List.getElem?_map, List.getElem?_range hlen] at hx
      cases hx
      exact hat k hlen
    · rw [hws]
      refine hD.app ⟨fun i j x y hi hj hxy => ?_, fun k x hx => ?_⟩ (fun i j x y hi hj => ?_)
      · have h1 := (List.getElem?_eq_some_iff.mp hi).1
        have h2 := (List.getElem?_eq_some_iff.mp hj).1
        rw [List.length_map, List.length_range] at h1 h2
        rw [List.getElem?_map, List.getElem?_range h1] at hi
        rw [List.getElem?_map, List.getElem?_range h2] at hj
        cases hi; cases hj
        dsimp only at hxy
        omega
      · have h1 := (List.getElem?_eq_some_iff.mp hx).1
        rw [List.length_map, List.length_range] at h1
        rw [List.getElem?_map, List.getElem?_range h1] at hx
        cases hx
        exact hA _ (Nat.le_trans hS.1 (Nat.le_add_right _ _))
      · have h1 := (hP i x hi).lt
        have h2 := (List.getElem?_eq_some_iff.mp hj).1
        rw [List.length_map, List.length_range] at h2
        rw [List.getElem?_map, List.getElem?_range h2] at hj
        cases hj
        show x.1 ≠ H.size + j
        omega
    · intro k hk
      have hk3 : k < M.2.2.2.2.1 + 1 + N := hk
      by_cases hk4 : k < M.2.2.2.2.1
      · rw [hS2 k hk4]; exact hok k hk4
      · right
        simp only [am_al2]
        by_cases hk5 : k = M.2.2.2.2.1
        · rw [if_pos hk5]; exact ⟨by omega, by omega⟩
        · rw [if_neg hk5, if_pos (by omega)]; exact ⟨by omega, by omega⟩
    · show s.heap.size + (M.2.2.2.2.1 + 1 + N - M0.2.2.2.2.1) ≤ F.heap.size
      rw [f1]
      omega
  have hk' := kf _ _ _ _ h _ _ _ hI'
  have e1 : (am_al2 M N K).2.2.2.2.1 - M0.2.2.2.2.1 = M.2.2.2.2.1 - M0.2.2.2.2.1 + 1 + N := by show M.2.2.2.2.1 + 1 + N - M0.2.2.2.2.1 = _; omega
  have e2 : (am_al2 M N K).2.2.2.2.2 - M0.2.2.2.2.2 = M.2.2.2.2.2 - M0.2.2.2.2.2 + N + N * K := by show M.2.2.2.2.2 + (N + N * K) - M0.2.2.2.2.2 = _; omega
  rw [e1, e2] at hk'
  obtain ⟨t, a1, b1⟩ := hk' F rfl X'
  have e : (Value.ref M.2.2.2.2.1 :: q).map (am_tv ad) = .ref T.heap.size :: q.map (am_tv ad) := by
    rw [List.map_cons, hT]; show Value.ref (ad _) :: _ = _; rw [show M.2.2.2.2.1 = M.2.2.2.2.1 + 0 by omega, had 0 (by omega)]; rfl
  rw [e] at a1
  exact ⟨t, step t a1, b1⟩
end SMU
