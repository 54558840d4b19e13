/-! ONE STEP IS SOUND: what the abstract step does, the machine does. -/
/-- what holds at a place of the method -/
def am_I (D : va_G) (cid : Nat → ClassId) (ad : Nat → Nat) (A : Nat → Prop) (s : State) (mi : Nat) (M0 M : am_M) (H : Heap) (locs : List Loc) (ls : Array Slot) (L : List Value) : Prop :=
  va_P D vwCl (am_ws cid ad M) H ∧ va_D A (am_ws cid ad M) ∧ va_S A s.heap H locs ∧ am_lh ad ls (am_ml mi) L ∧ am_okS M ∧ s.heap.size + (M.2.2.2.2.1 - M0.2.2.2.2.1) ≤ H.size ∧ am_gw M0 M
theorem am_I.loc {D : va_G} {cid : Nat → ClassId} {ad : Nat → Nat} {A : Nat → Prop} {s : State} {mi : Nat} {M0 M : am_M} {H : Heap} {locs : List Loc} {ls ls' : Array Slot} {L L' : List Value} (h : am_I D cid ad A s mi M0 M H locs ls L) (hl : am_lh ad ls' (am_ml mi) L') : am_I D cid ad A s mi M0 M H locs ls' L' := ⟨h.1, h.2.1, h.2.2.1, hl, h.2.2.2.2⟩
theorem am_I.ld {D : va_G} {cid : Nat → ClassId} {ad : Nat → Nat} {A : Nat → Prop} {s : State} {mi : Nat} {M0 M : am_M} {H : Heap} {locs : List Loc} {ls : Array Slot} {L : List Value} (h : am_I D cid ad A s mi M0 M H locs ls L) {i : Nat} {v : Value} (hv : L[i]? = some v) (hq : ∀ q, v ≠ .retAddr q) : ls[i]? = some (.val (am_tv ad v)) := h.2.2.2.1.2.2 i v hv hq
/-- a write into a cell: the heap changes, nothing is made -/
theorem am_I.put {D : va_G} {cid : Nat → ClassId} {ad : Nat → Nat} {A : Nat → Prop} {s : State} {mi : Nat} {M0 M M' : am_M} {H H1 : Heap} {locs locs1 : List Loc} {ls : Array Slot} {L : List Value} (h : am_I D cid ad A s mi M0 M H locs ls L) (hn : M'.2.2.2 = M.2.2.2) (hP : va_P D vwCl (am_ws cid ad M') H1) (hD : va_D A (am_ws cid ad M')) (hS : va_S A H H1 locs1) : am_I D cid ad A s mi M0 M' H1 locs1 ls L := by
  obtain ⟨-, -, hS0, hl, hok, hsz, hgw⟩ := h
  refine ⟨hP, hD, ⟨Nat.le_trans hS0.1 hS.1, fun q h1 h2 => ?_, hS.2.2⟩, hl, ?_, ?_, ?_⟩
  · rw [hS.2.1 q (Nat.lt_of_lt_of_le h1 hS0.1) h2]; exact hS0.2.1 q h1 h2
  · intro k hk; rw [hn] at hk ⊢; exact hok k hk
  · rw [hn]; exact Nat.le_trans hsz hS.1
  · exact ⟨by rw [hn]; exact hgw.1, by rw [hn]; exact hgw.2⟩
/-- from here on, in the heap as it is -/
theorem am_I.at {D : va_G} {cid : Nat → ClassId} {ad : Nat → Nat} {A : Nat → Prop} {s : State} {mi : Nat} {M0 M : am_M} {H : Heap} {locs : List Loc} {ls : Array Slot} {L : List Value} (h : am_I D cid ad A s mi M0 M H locs ls L) : va_S A H H locs := ⟨Nat.le_refl _, fun _ _ _ => rfl, h.2.2.1.2.2⟩
section SST
variable {p : Program} {l : Launch} {e : Env} {R : Room} {s : State} {m : MethodId} {args : Array Value} {below : List Frame} {meth : Method} {c : Code} {D : va_G} {cid : Nat → ClassId} {ad : Nat → Nat} {A : Nat → Prop} {Q : State → Prop}
variable {mi pc : Nat} {en : am_E} {g : Nat → List Value → am_M → am_O} {f : Nat → List Value → List Value → am_M → am_O} {L st : List Value} {M M0 M1 : am_M} {r : Option Value} {H : Heap} {locs : List Loc} {ls : Array Slot}
/-- where the method goes on from -/
abbrev am_kf (p : Program) (l : Launch) (e : Env) (R : Room) (s : State) (m : MethodId) (args : Array Value) (below : List Frame) (meth : Method) (c : Code) (D : va_G) (cid : Nat → ClassId) (ad : Nat → Nat) (A : Nat → Prop) (Q : State → Prop) (mi : Nat) (f : Nat → List Value → List Value → am_M → am_O) (M0 M1 : am_M) (r : Option Value) : Prop :=
  ∀ (pc : Nat) (L st : List Value) (M : am_M), f pc L st M = some (r, M1) → ∀ (H : Heap) (locs : List Loc) (ls : Array Slot), am_I D cid ad A s mi M0 M H locs ls L → W p l e R s m args below meth c H locs (M.2.2.2.2.1 - M0.2.2.2.2.1) (M.2.2.2.2.2 - M0.2.2.2.2.2) Q (F0 m pc ls (st.map (am_tv ad)))
theorem am_s_cnd (C : am_Cx p R s m args meth c mi) (kf : am_kf p l e R s m args below meth c D cid ad A Q mi f M0 M1 r) (hI : am_I D cid ad A s mi M0 M H locs ls L) {cd : ClassFile.Cond} {off : Int} {tgt : Nat} {x y : Int32} {q : List Value} (hd : decode (am_c mi) pc = .ok (.if_icmp cd off, 3)) (ht : (pc : Int) + off = (tgt : Int)) (h : am_cnd cd x y (f tgt L q M) (f (pc + 3) L q M) = some (r, M1)) :
    W p l e R s m args below meth c H locs (M.2.2.2.2.1 - M0.2.2.2.2.1) (M.2.2.2.2.2 - M0.2.2.2.2.2) Q (F0 m pc ls (.int y :: .int x :: q.map (am_tv ad))) := by
  obtain ⟨hx, hb, -⟩ := C
  cases cd <;> simp only [am_cnd] at h
  · exact lv_icmp_eq hx hb hd ht (fun z => by rw [if_pos z] at h; exact kf _ _ _ _ h _ _ _ hI) (fun z => by rw [if_neg z] at h; exact kf _ _ _ _ h _ _ _ hI)
  · exact lv_icmp_ne hx hb hd ht (fun z => by rw [if_neg z] at h; exact kf _ _ _ _ h _ _ _ hI) (fun z => by rw [if_pos z] at h; exact kf _ _ _ _ h _ _ _ hI)
  · exact lv_icmp_lt hx hb hd ht (fun z => by rw [if_pos z] at h; exact kf _ _ _ _ h _ _ _ hI) (fun z => by rw [if_neg z] at h; exact kf _ _ _ _ h _ _ _ hI)
  · exact lv_icmp_ge hx hb hd ht (fun z => by rw [if_pos z] at h; exact kf _ _ _ _ h _ _ _ hI) (fun z => by rw [if_neg z] at h; exact kf _ _ _ _ h _ _ _ hI)
  · exact lv_icmp_gt hx hb hd ht (fun z => by rw [if_pos z] at h; exact kf _ _ _ _ h _ _ _ hI) (fun z => by rw [if_neg z] at h; exact kf _ _ _ _ h _ _ _ hI)
  · exact lv_icmp_le hx hb hd ht (fun z => by rw [if_pos z] at h; exact kf _ _ _ _ h _ _ _ hI) (fun z => by rw [if_neg z] at h; exact kf _ _ _ _ h _ _ _ hI)
theorem am_s_cnd0 (C : am_Cx p R s m args meth c mi) (kf : am_kf p l e R s m args below meth c D cid ad A Q mi f M0 M1 r) (hI : am_I D cid ad A s mi M0 M H locs ls L) {cd : ClassFile.Cond} {off : Int} {tgt : Nat} {x : Int32} {q : List Value} (hd : decode (am_c mi) pc = .ok (.ifCond cd off, 3)) (ht : (pc : Int) + off = (tgt : Int)) (h : am_cnd cd x 0 (f tgt L q M) (f (pc + 3) L q M) = some (r, M1)) :
    W p l e R s m args below meth c H locs (M.2.2.2.2.1 - M0.2.2.2.2.1) (M.2.2.2.2.2 - M0.2.2.2.2.2) Q (F0 m pc ls (.int x :: q.map (am_tv ad))) := by
  obtain ⟨hx, hb, -⟩ := C
  cases cd <;> simp only [am_cnd] at h
  · exact lv_if_eq hx hb hd ht (fun z => by rw [if_pos z] at h; exact kf _ _ _ _ h _ _ _ hI) (fun z => by rw [if_neg z] at h; exact kf _ _ _ _ h _ _ _ hI)
  · exact lv_if_ne hx hb hd ht (fun z => by rw [if_neg z] at h; exact kf _ _ _ _ h _ _ _ hI) (fun z => by rw [if_pos z] at h; exact kf _ _ _ _ h _ _ _ hI)
  · exact lv_if_lt hx hb hd ht (fun z => by rw [if_pos z] at h; exact kf _ _ _ _ h _ _ _ hI) (fun z => by rw [if_neg z] at h; exact kf _ _ _ _ h _ _ _ hI)
  · exact lv_if_ge hx hb hd ht (fun z => by rw [if_pos z] at h; exact kf _ _ _ _ h _ _ _ hI) (fun z => by rw [if_neg z] at h; exact kf _ _ _ _ h _ _ _ hI)
  · exact lv_if_gt hx hb hd ht (fun z => by rw [if_pos z] at h; exact kf _ _ _ _ h _ _ _ hI) (fun z => by rw [if_neg z] at h; exact kf _ _ _ _ h _ _ _ hI)
  · exact lv_if_le hx hb hd ht (fun z => by rw [if_pos z] at h; exact kf _ _ _ _ h _ _ _ hI) (fun z => by rw [if_neg z] at h; exact kf _ _ _ _ h _ _ _ hI)
/-- a table: along its keys -/
theorem am_s_tab (C : am_Cx p R s m args meth c mi) (kf : am_kf p l e R s m args below meth c D cid ad A Q mi f M0 M1 r) (hI : am_I D cid ad A s mi M0 M H locs ls L) {d lo hi : Int} {offs : Array Int} {len : Nat} {x : Int32} {q : List Value} (hd : decode (am_c mi) pc = .ok (.tableswitch d lo hi offs, len)) (h0 : 0 ≤ (pc : Int) + d) (hall : ∀ o ∈ offs.toList, 0 ≤ (pc : Int) + o) (hn : lo + (offs.toList.length : Int) = hi + 1) (hlo : -1000 ≤ lo) (hhi : hi ≤ 1000) :
    ∀ (k : Nat) (rest : List Int), offs.toList.drop k = rest → (∀ j, j < k → x.toInt ≠ lo + j) → am_sw x (fun t => f t L q M) ((pc : Int) + d).toNat (am_keys pc (lo + k) rest) = some (r, M1) → W p l e R s m args below meth c H locs (M.2.2.2.2.1 - M0.2.2.2.2.1) (M.2.2.2.2.2 - M0.2.2.2.2.2) Q (F0 m pc ls (.int x :: q.map (am_tv ad))) := by
  obtain ⟨hx, hb, -⟩ := C
  intro k rest
  induction rest generalizing k with
  | nil =>
    intro hr hk h
    have hlen : offs.toList.length ≤ k := List.drop_eq_nil_iff.mp hr
    refine lv_tableOut hx hb hd ?_ (tgt := ((pc : Int) + d).toNat) (by omega) (kf _ _ _ _ h _ _ _ hI)
    rcases Int.lt_or_le x.toInt lo with z | z
    · exact Or.inl z
    · right
      rcases Int.lt_or_le hi x.toInt with z2 | z2
      · exact z2
      · exact absurd (show x.toInt = lo + ((x.toInt - lo).toNat : Nat) by omega) (hk (x.toInt - lo).toNat (by omega))
  | cons o rest ih =>
    intro hr hk h
    have hkl : k < offs.toList.length := by
      rcases Nat.lt_or_ge k offs.toList.length with z | z
      · exact z
      · rw [List.drop_eq_nil_iff.mpr z] at hr; cases hr
    have ho : offs.toList[k]? = some o := by
      have := congrArg (fun l => l[0]?) hr
      simpa using this
    have hr2 : offs.toList.drop (k + 1) = rest := by
      have := congrArg (fun l => l.drop 1) hr
      simpa [Nat.add_comm] using this
    simp only [am_keys, am_sw] at h
    have hki : (Int32.ofInt (lo + k)).toInt = lo + k := Int32.toInt_ofInt_of_le (by omega) (by omega)
    by_cases hxk : x = Int32.ofInt (lo + k)
    · rw [if_pos hxk] at h
      have hxi : x.toInt = lo + k := by rw [hxk, hki]
      refine lv_tableIn hx hb hd (by omega) (by omega) (off := o) ?_ (tgt := ((pc : Int) + o).toNat) (by have := hall o (List.mem_of_getElem? ho); omega) (kf _ _ _ _ h _ _ _ hI)
      rw [show (x.toInt - lo).toNat = k by omega, ← Array.getElem?_toList]
      exact ho
    · rw [if_neg hxk] at h
      refine ih (k + 1) hr2 (fun j hj => ?_) (by rw [show lo + ((k + 1 : Nat) : Int) = lo + k + 1 by omega]; exact h)
      rcases Nat.lt_or_ge j k with z | z
      · exact hk j z
      · obtain rfl : j = k := by omega
        intro hq
        exact hxk (Int32.toInt_inj.mp (by rw [hki]; exact hq))
theorem am_s_look (C : am_Cx p R s m args meth c mi) (kf : am_kf p l e R s m args below meth c D cid ad A Q mi f M0 M1 r) (hI : am_I D cid ad A s mi M0 M H locs ls L) {d : Int} {ps : Array (Int × Int)} {len : Nat} {x : Int32} {q : List Value} (hd : decode (am_c mi) pc = .ok (.lookupswitch d ps, len)) (h0 : 0 ≤ (pc : Int) + d) (hsort : (ps.toList.zip (ps.toList.drop 1)).all (fun (a, next) => a.1 < next.1) = true) :
    ∀ (rest : List (Int × Int)), (∀ o ∈ rest, 0 ≤ (pc : Int) + o.2 ∧ -1000 ≤ o.1 ∧ o.1 ≤ 1000) → Op.lookupswitch.offset ps.toList d x.toInt = Op.lookupswitch.offset rest d x.toInt → am_sw x (fun t => f t L q M) ((pc : Int) + d).toNat (am_pairs pc rest) = some (r, M1) → W p l e R s m args below meth c H locs (M.2.2.2.2.1 - M0.2.2.2.2.1) (M.2.2.2.2.2 - M0.2.2.2.2.2) Q (F0 m pc ls (.int x :: q.map (am_tv ad))) := by
  intro rest
  induction rest with
  | nil =>
    intro hall he h
    exact lv_lookup C.1 C.2.1 hd hsort (off := d) he (tgt := ((pc : Int) + d).toNat) (by omega) (kf _ _ _ _ h _ _ _ hI)
  | cons o rest ih =>
    intro hall he h
    obtain ⟨k, o⟩ := o
    obtain ⟨g1, g2, g3⟩ := hall _ List.mem_cons_self
    simp only [am_pairs, am_sw] at h
    dsimp only at g1 g2 g3
    have hki : (Int32.ofInt k).toInt = k := Int32.toInt_ofInt_of_le (by omega) (by omega)
    by_cases hxk : x = Int32.ofInt k
    · rw [if_pos hxk] at h
      have hxi : x.toInt = k := by rw [hxk, hki]
      refine lv_lookup C.1 C.2.1 hd hsort (off := o) (he.trans ?_) (tgt := ((pc : Int) + o).toNat) (by omega) (kf _ _ _ _ h _ _ _ hI)
      rw [hxi]
      simp [Op.lookupswitch.offset]
    · rw [if_neg hxk] at h
      exact ih (fun o ho => hall o (List.mem_cons_of_mem _ ho)) (he.trans (lv_osw hxk hki)) h
end SST
