/-! THE LAW: one round of its loop -/
abbrev lw_dA (pc : Nat) (is : List Nat) : Prop := ∀ n, n < is.length → decode code (pc + 5 * n) = .ok (.aload_n 0, 1) ∧ decode code (pc + 5 * n + 1) = .ok (.iload_n 3, 1) ∧ decode code (pc + 5 * n + 2) = .ok (.iconst ((is.getD n 0 : Nat) : Int), 1) ∧ decode code (pc + 5 * n + 3) = .ok (.iadd, 1) ∧ decode code (pc + 5 * n + 4) = .ok (.iaload, 1)
abbrev lw_dk (pc : Nat) (is : List Nat) (idC idM : Nat) : Prop := decode code pc = .ok (.aload_n 1, 1) ∧ lw_dA (pc + 1) is ∧ decode code (pc + 1 + 5 * is.length) = .ok (.invokevirtual idC, 3) ∧ decode code (pc + 1 + 5 * is.length + 3) = .ok (.aload_n 2, 1) ∧ lw_dA (pc + 1 + 5 * is.length + 3 + 1) is ∧ decode code (pc + 1 + 5 * is.length + 3 + 1 + 5 * is.length) = .ok (.invokevirtual idM, 3) ∧ decode code (pc + 1 + 5 * is.length + 3 + 1 + 5 * is.length + 3) = .ok (.if_icmp .eq (1359 - ((pc + 1 + 5 * is.length + 3 + 1 + 5 * is.length + 3 : Nat) : Int)), 3)
theorem lw_okC (C : tI) (Jc : tJ) (x : Bool) : am_okS (C, Jc, (tc_R x), tc_S, 289, 11479) := by
  have h : ∀ k, k < 289 → ((tc_S k).1 < 13 ∧ (tc_S k).2 = am_nf (tc_S k).1) ∨ (20 ≤ (tc_S k).1 ∧ (tc_S k).1 ≤ 27) := by decide +kernel
  exact fun k hk => h k hk
theorem lw_okM (M : tI) (J : tJ) : am_okS (M, J, tm_R, tm_S, 77, 21637) := by
  have h : ∀ k, k < 77 → ((tm_S k).1 < 13 ∧ (tm_S k).2 = am_nf (tm_S k).1) ∨ (20 ≤ (tm_S k).1 ∧ (tm_S k).1 ≤ 27) := by decide +kernel
  exact fun k hk => h k hk
theorem lw_at0 : (tc_S 0).1 = 11 ∧ (tm_S 0).1 = 12 := by decide +kernel
section LWD
variable {p : Program} {l : Launch} {e : Env} {s : State} {m : MethodId} {below : List Frame} {meth : Method} {c : Code} {b L : Nat} {xs : Nat → Int32} {D : va_G} {cid : Nat → ClassId} {adr : Nat → Nat} {H : Heap} {locs : List Loc} {cells slots t : Nat} {Q : State → Prop} {ls : Array Slot}
theorem lw_args (C0 : lw_At p s m meth c b L xs) (hL : L ≤ 3072) (hS : va_S (lw_A0 s) s.heap H locs) (l0 : ls[0]? = some (.val (.ref b))) (l3 : ls[3]? = some (.val (.int (nI t)))) : ∀ (is : List Nat) (pc : Nat) (q : List Value), lw_dA pc is → (∀ i ∈ is, t + i < L) → W p l e room_1 s m #[Value.ref b] below meth c H locs cells slots Q (F0 m (pc + 5 * is.length) ls ((is.map (fun i => Value.int (xs (t + i)))).reverse ++ q)) → W p l e room_1 s m #[Value.ref b] below meth c H locs cells slots Q (F0 m pc ls q) := by
  intro is
  induction is with
  | nil => intro pc q _ _ k; exact k
  | cons i is ih =>
    intro pc q hd hi k
    obtain ⟨hx, hb, hr, hml, hown, hts, hX, hbl, hlocks, hgv⟩ := C0
    obtain ⟨d0, d1, d2, d3, d4⟩ := hd 0 (Nat.zero_lt_succ _)
    have hti := hi i (List.mem_cons_self ..)
    refine lv_aload_n hx hb d0 rfl l0 ?_
    refine lv_iload_n hx hb d1 rfl l3 ?_
    refine lv_iconst (v := nI i) hx hb d2 rfl ?_
    refine lv_iadd hx hb d3 ?_
    rw [nI_add]
    refine va_sld hx hb hX hbl (Nat.not_le.mpr hbl) hS (show am_in (nI (t + i)) L from nI_in hti (by omega)) d4 ?_
    ((try simp (disch := omega) only [nI_clamp]))
    refine ih (pc + 5) _ (fun n hn => ?_) (fun j hj => hi j (List.mem_cons_of_mem _ hj)) ?_
    · have := hd (n + 1) (Nat.succ_lt_succ hn)
      rw [show pc + 5 * (n + 1) = pc + 5 + 5 * n by omega] at this
      exact this
    · rw [show pc + 5 * (i :: is).length = pc + 5 + 5 * is.length by rw [List.length_cons]; omega, List.map_cons, List.reverse_cons, List.append_assoc] at k
      exact k
theorem lw_oth {cl : List vw_C} {M1 M2 : am_M} {ad1 ad2 : Nat → Nat} {H' : Heap} (hdis : ∀ i j, i < M1.2.2.2.2.1 → j < M2.2.2.2.2.1 → ad1 i ≠ ad2 j) (hk : ∀ q : Nat, q < H.size → ¬ va_A (am_ws cid ad1 M1) H.size q → H'[q]? = H[q]?) (hP : va_P D cl (am_ws cid ad2 M2) H) : va_P D cl (am_ws cid ad2 M2) H' := by
  intro k q hq
  have h := hP k q hq
  have hl := h.lt
  have hk2 : k < M2.2.2.2.2.1 := by
    have := (List.getElem?_eq_some_iff.mp hq).1
    unfold am_ws at this
    rwa [List.length_map, List.length_range] at this
  rw [am_ws_at hk2] at hq
  cases hq
  refine h.kept (hk _ hl (fun z => ?_))
  rcases z with ⟨i, w, z⟩ | z
  · have hi : i < M1.2.2.2.2.1 := by
      have := (List.getElem?_eq_some_iff.mp z).1
      unfold am_ws at this
      rwa [List.length_map, List.length_range] at this
    rw [am_ws_at hi] at z
    exact hdis i k hi hk2 (congrArg Prod.fst (Option.some.inj z))
  · omega
/-- what holds between two calls -/
def lw_I (D : va_G) (cid : Nat → ClassId) (adr : Nat → Nat) (s : State) (x : Bool) (C : tI) (Jc : tJ) (M : tI) (J : tJ) (H : Heap) (locs : List Loc) : Prop := va_P D vwCl (am_ws cid (lw_ad adr s.heap.size) (C, Jc, (tc_R x), tc_S, 289, 11479)) H ∧ va_D (lw_A0 s) (am_ws cid (lw_ad adr s.heap.size) (C, Jc, (tc_R x), tc_S, 289, 11479)) ∧ va_P D vwCl (am_ws cid (lw_ad adr (s.heap.size + 289)) (M, J, tm_R, tm_S, 77, 21637)) H ∧ va_D (lw_A0 s) (am_ws cid (lw_ad adr (s.heap.size + 289)) (M, J, tm_R, tm_S, 77, 21637)) ∧ va_S (lw_A0 s) s.heap H locs
theorem lw_dis (adr : Nat → Nat) (h : Nat) : ∀ i j, i < 289 → j < 77 → lw_ad adr h i ≠ lw_ad adr (h + 289) j := by
  intro i j hi hj
  unfold lw_ad
  rw [if_pos (by omega), if_pos (by omega)]
  omega
theorem lw_case (C0 : lw_At p s m meth c b L xs) (hL : L ≤ 3072) (hK : va_K D vwCl (am_tys cid) s) (hRO : am_RO adr (lw_A0 s) s s.heap) (h4 : ls.size = 4) (l0 : ls[0]? = some (.val (.ref b))) (l1 : ls[1]? = some (.val (.ref (lw_ad adr s.heap.size 0)))) (l2 : ls[2]? = some (.val (.ref (lw_ad adr (s.heap.size + 289) 0)))) (l3 : ls[3]? = some (.val (.int (nI t)))) (hcs : cells ≤ 600000) (hss : slots ≤ 7302249)
    {pc : Nat} (is : List Nat) {idC idM ci mi : Nat} (dk : lw_dk pc is idC idM) (hi : ∀ i ∈ is, t + i < L) (hci : ci < 293 ∧ am_sk ci = 2 ∧ am_own ci = 11 ∧ am_np ci = is.length) (hmi : mi < 293 ∧ am_sk mi = 2 ∧ am_own mi = 12 ∧ am_np mi = is.length) (hlC : Cond.methodLink R_law idC (am_y ci) ∈ tables_1) (hlM : Cond.methodLink R_law idM (am_y mi) ∈ tables_1)
    {x : Bool} {C M : tI} {J Jc : tJ} (lk : Lk ci mi (is.map (fun i => Value.int (xs (t + i)))) x C M Jc J) (inv : lw_I D cid adr s x C Jc M J H locs)
    (kk : ∀ (x' : Bool) (C' M' : tI) (J' : tJ) (H' : Heap) (locs' : List Loc), Rl x' C' M' J' → lw_I D cid adr s x' C' Jc M' J' H' locs' → W p l e room_1 s m #[Value.ref b] below meth c H' locs' cells slots Q (F0 m 1359 ls [])) :
    W p l e room_1 s m #[Value.ref b] below meth c H locs cells slots Q (F0 m pc ls []) := by
  obtain ⟨d0, dA, d1, d2, dB, d3, d4⟩ := dk
  obtain ⟨r, x', C', M', J', r1, r2, rl⟩ := lk
  obtain ⟨hP1, hD1, hP2, hD2, hS⟩ := inv
  have hx := C0.1
  have hb := C0.2.1
  have tvm : ∀ ad : Nat → Nat, (is.map (fun i => Value.int (xs (t + i)))).map (am_tv ad) = is.map (fun i => Value.int (xs (t + i))) := fun ad => by
    rw [List.map_map]; rfl
  have ad1 : ∀ k, 1000000 ≤ k → lw_ad adr s.heap.size k = adr k := fun k hk => if_neg (by omega)
  have ad2 : ∀ k, 1000000 ≤ k → lw_ad adr (s.heap.size + 289) k = adr k := fun k hk => if_neg (by omega)
  have hlen : (is.map (fun i => Value.int (xs (t + i)))).length = is.length := List.length_map ..
  refine lv_aload_n hx hb d0 rfl l1 ?_
  refine lw_args C0 hL hS l0 l3 is (pc + 1) _ dA hi ?_
  refine lw_call (q := []) C0 hK (hRO.cg ad1) hP1 hD1 hS (lw_okC C Jc x) d1 hci.1 hci.2.1 hlC (by rw [hlen]; exact hci.2.2.2.symm) ⟨by rw [hci.2.2.1]; exact lw_at0.1, by show 0 < 289; omega⟩ (tvm _) (Nat.le_of_ble_eq_true rfl) r1 rfl rfl h4 hcs hss (fun H1 locs1 hP1' hD1' hS1 _ hk1 => ?_)
  have hP2' := lw_oth (lw_dis adr s.heap.size) hk1 hP2
  refine lv_aload_n hx hb d2 rfl l2 ?_
  refine lw_args C0 hL hS1 l0 l3 is _ _ dB hi ?_
  refine lw_call (q := [.int r]) C0 hK (hRO.cg ad2) hP2' hD2 hS1 (lw_okM M J) d3 hmi.1 hmi.2.1 hlM (by rw [hlen]; exact hmi.2.2.2.symm) ⟨by rw [hmi.2.2.1]; exact lw_at0.2, by show 0 < 77; omega⟩ (tvm _) (Nat.le_of_ble_eq_true rfl) r2 rfl rfl h4 hcs hss (fun H2 locs2 hP2'' hD2' hS2 _ hk2 => ?_)
  have hP1'' := lw_oth (M1 := (M, J, tm_R, tm_S, 77, 21637)) (ad1 := lw_ad adr (s.heap.size + 289)) (fun i j hi hj z => lw_dis adr s.heap.size j i hj hi z.symm) hk2 hP1'
  refine lv_icmp_eq (tgt := 1359) hx hb d4 (by omega) (fun _ => kk x' C' M' J' H2 locs2 rl ⟨hP1'', hD1', hP2'', hD2', hS2⟩) (fun z => absurd rfl z)
end LWD
