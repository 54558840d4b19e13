/-! CONSTRUCTORS: the relation holds at the start -/
def st_eqs : List ((Nat × Nat) × (Nat × Nat)) := [((1, 2), (0, 1)), ((1, 7), (0, 10)), ((1, 8), (0, 11)), ((0, 8), (0, 91)), ((0, 7), (0, 102)), ((41, 1), (0, 65)), ((41, 2), (0, 89)), ((41, 3), (0, 90)), ((41, 5), (0, 66)), ((41, 7), (0, 70)), ((41, 10), (0, 74))]
  ++ (List.range 6).map (fun j => ((288, j), (45, j))) ++ (List.range 9).map (fun j => ((43, j), (([2, 6, 11, 20, 22, 26, 34, 14, 18] : List Nat).getD j 0, xb false))) ++ (List.range 4).flatMap (fun p => [((270 + p, 0), (64, p)), ((270 + p, 1), (65, p))]) ++ (List.range 8).map (fun m => ((85, m), (67, m)))
set_option maxRecDepth 1000000 in
set_option maxHeartbeats 0 in
theorem st_eq1 : (st_eqs.all fun q => decide (stC.1 q.1.1 q.1.2 = stM.1 q.2.1 q.2.2)) = true := by decide +kernel
def st_mv : List ((Nat × Nat) × Int32) := [((0, 12), nI (xb false)), ((0, 1), 0), ((0, 102), 0), ((0, 74), 0), ((0, 65), 0), ((0, 89), -1), ((0, 66), 0), ((0, 70), 0)] ++ (List.range 9).map (fun j => ((([2, 6, 11, 20, 22, 26, 34, 14, 18] : List Nat).getD j 0, xb false), 0)) ++ (List.range 4).flatMap (fun p => [((64, p), -1), ((65, p), -1)]) ++ (List.range 8).map (fun m => ((67, m), 0))
set_option maxRecDepth 1000000 in
set_option maxHeartbeats 0 in
theorem st_mv1 : (st_mv.all fun q => decide (stM.1 q.1.1 q.1.2 = q.2)) = true := by decide +kernel
set_option maxRecDepth 1000000 in
set_option maxHeartbeats 0 in
theorem st_own : ((List.range 32).all fun j => decide (stC.1 2 j = nI (rl_own.getD j 0))) = true := by decide +kernel
theorem st_z0 (kd nf k j : Nat) : (lx_0 kd nf).1 k j = 0 := rfl
theorem stC_z {k : Nat} (h : (lgC.all fun q => !(Nat.beq q.1 0 && Nat.beq q.2.1 k) || decide (q.2.2.2.2 = 0)) = true) (j : Nat) : stC.1 k j = 0 := lx_zI (fun j => st_z0 _ _ _ _) lgC h j
theorem stM_z {k : Nat} (h : (lgM.all fun q => !(Nat.beq q.1 0 && Nat.beq q.2.1 k) || decide (q.2.2.2.2 = 0)) = true) (j : Nat) : stM.1 k j = 0 := lx_zI (fun j => st_z0 _ _ _ _) lgM h j
set_option maxRecDepth 1000000 in
theorem stC_3 (j : Nat) : stC.1 3 j = 0 := stC_z (by decide +kernel) j
set_option maxRecDepth 1000000 in
theorem stC_286 (j : Nat) : stC.1 286 j = 0 := stC_z (by decide +kernel) j
set_option maxRecDepth 1000000 in
theorem stC_need : ∀ s, s < 6 → ∀ j, stC.1 (42 + 15 + s) j = 0 := by
  intro s hs j
  rcases six hs with rfl | rfl | rfl | rfl | rfl | rfl <;> exact stC_z (by decide +kernel) j
set_option maxRecDepth 1000000 in
theorem stM_1 (j : Nat) : stM.1 1 j = 0 := stM_z (by decide +kernel) j
set_option maxRecDepth 1000000 in
theorem stM_63 (j : Nat) : stM.1 63 j = 0 := stM_z (by decide +kernel) j
theorem st_e {q : (Nat × Nat) × (Nat × Nat)} (h : q ∈ st_eqs) : stC.1 q.1.1 q.1.2 = stM.1 q.2.1 q.2.2 := of_decide_eq_true (List.all_eq_true.mp st_eq1 q h)
theorem st_m {q : (Nat × Nat) × Int32} (h : q ∈ st_mv) : stM.1 q.1.1 q.1.2 = q.2 := of_decide_eq_true (List.all_eq_true.mp st_mv1 q h)
theorem bd0 {v : Int32} (h : v = 0) (n : Nat) : bd v n := ⟨0, Nat.zero_le _, h⟩
theorem cl0 {v : Int32} (h : v = 0) : Int32.toNatClampNeg v = 0 := by rw [h]; rfl
theorem st_Rl (J : tJ) : Rl false stC.1 stM.1 J := by
  have m12 : stM.1 0 12 = nI (xb false) := st_m (q := ((0, 12), nI (xb false))) (by decide)
  have m1 : stM.1 0 1 = 0 := st_m (q := ((0, 1), 0)) (by decide)
  have m102 : stM.1 0 102 = 0 := st_m (q := ((0, 102), 0)) (by decide)
  have m74 : stM.1 0 74 = 0 := st_m (q := ((0, 74), 0)) (by decide)
  have m65 : stM.1 0 65 = 0 := st_m (q := ((0, 65), 0)) (by decide)
  have m89 : stM.1 0 89 = -1 := st_m (q := ((0, 89), -1)) (by decide)
  have m66 : stM.1 0 66 = 0 := st_m (q := ((0, 66), 0)) (by decide)
  have m70 : stM.1 0 70 = 0 := st_m (q := ((0, 70), 0)) (by decide)
  have k2 : stM.1 2 (xb false) = 0 := st_m (q := ((2, xb false), 0)) (by decide)
  have k6 : stM.1 6 (xb false) = 0 := st_m (q := ((6, xb false), 0)) (by decide)
  have k11 : stM.1 11 (xb false) = 0 := st_m (q := ((11, xb false), 0)) (by decide)
  have k20 : stM.1 20 (xb false) = 0 := st_m (q := ((20, xb false), 0)) (by decide)
  have k22 : stM.1 22 (xb false) = 0 := st_m (q := ((22, xb false), 0)) (by decide)
  have k26 : stM.1 26 (xb false) = 0 := st_m (q := ((26, xb false), 0)) (by decide)
  have k34 : stM.1 34 (xb false) = 0 := st_m (q := ((34, xb false), 0)) (by decide)
  have k14 : stM.1 14 (xb false) = 0 := st_m (q := ((14, xb false), 0)) (by decide)
  have k18 : stM.1 18 (xb false) = 0 := st_m (q := ((18, xb false), 0)) (by decide)
  have p64 : ∀ p, p < 4 → stM.1 64 p = -1 := fun p hp => st_m (q := ((64, p), -1)) (by rcases (by omega : p = 0 ∨ p = 1 ∨ p = 2 ∨ p = 3) with rfl | rfl | rfl | rfl <;> decide)
  have p65 : ∀ p, p < 4 → stM.1 65 p = -1 := fun p hp => st_m (q := ((65, p), -1)) (by rcases (by omega : p = 0 ∨ p = 1 ∨ p = 2 ∨ p = 3) with rfl | rfl | rfl | rfl <;> decide)
  have e43 : ∀ i, i < 9 → stC.1 43 i = stM.1 (([2, 6, 11, 20, 22, 26, 34, 14, 18] : List Nat).getD i 0) (xb false) := fun i hi => st_e (q := ((43, i), (([2, 6, 11, 20, 22, 26, 34, 14, 18] : List Nat).getD i 0, xb false))) (by
    rcases (by omega : i = 0 ∨ i = 1 ∨ i = 2 ∨ i = 3 ∨ i = 4 ∨ i = 5 ∨ i = 6 ∨ i = 7 ∨ i = 8) with rfl | rfl | rfl | rfl | rfl | rfl | rfl | rfl | rfl <;> decide)
  have no : ∀ {v : Int32} {k : Nat} {P : Prop}, v = 0 → k < Int32.toNatClampNeg v → P := fun hv h => by rw [cl0 hv] at h; omega
  refine ⟨m12, ⟨st_e (q := ((1, 2), (0, 1))) (by decide), bd0 m1 _, fun j _ => ⟨by rw [stC_3, stM_1], bd0 (stM_1 j) _⟩⟩, ⟨st_e (q := ((1, 7), (0, 10))) (by decide), st_e (q := ((1, 8), (0, 11))) (by decide)⟩, fun j hj => ?_, st_e (q := ((0, 8), (0, 91))) (by decide), ⟨st_e (q := ((0, 7), (0, 102))) (by decide), bd0 m102 _, fun j hj => no m102 hj⟩, ⟨fun i _ => ⟨by rw [stC_286, stM_63], bd0 (stM_63 _) _⟩, fun t i ht _ => no m74 ht, fun t i _ _ => ⟨bd0 (stM_63 _) _, fun _ => stM_63 _⟩⟩, fun j hj => ?_, ?_, ?_⟩
  · exact st_e (q := ((288, j), (45, j))) (by rcases (by omega : j = 0 ∨ j = 1 ∨ j = 2 ∨ j = 3 ∨ j = 4 ∨ j = 5) with rfl | rfl | rfl | rfl | rfl | rfl <;> decide)
  · exact of_decide_eq_true (List.all_eq_true.mp st_own j (List.mem_range.mpr hj))
  · refine ⟨⟨⟨e43 0 (by omega), bd0 k2 _⟩, ⟨e43 1 (by omega), bd0 k6 _⟩, ⟨e43 2 (by omega), bd0 k11 _⟩, ⟨e43 3 (by omega), bd0 k20 _⟩, ⟨e43 4 (by omega), bd0 k22 _⟩, ⟨e43 5 (by omega), bd0 k26 _⟩, ⟨e43 6 (by omega), bd0 k34 _⟩, ⟨e43 7 (by omega), bd0 k14 _⟩, ⟨e43 8 (by omega), bd0 k18 _⟩⟩, ⟨fun k hk => no k2 hk, fun k hk => no k6 hk, fun k hk => no k11 hk, fun k hk => no k20 hk, fun k hk => no k22 hk⟩, fun k hk => no k2 hk, fun k hk => no k6 hk, fun k hk => no k11 hk, ⟨fun s q hs hq => ?_, fun k hk => no k14 hk, fun k l _ hl => no k14 hl⟩, ⟨fun a c ha hc _ h0 => no k11 h0, fun a c ha _ _ => no k11 ha, fun a c ha _ => no k11 ha⟩, ⟨fun k hk => no k22 hk, fun k hk => no k26 hk⟩, fun h => ?_, fun k hk => no k34 hk⟩
    · rw [cl0 k14]
      exact stC_need s hs q
    · rcases h with h | h
      · exact no k6 h
      · exact no k11 h
  · refine ⟨⟨st_e (q := ((41, 1), (0, 65))) (by decide), bd0 m65 _, st_e (q := ((41, 2), (0, 89))) (by decide), Or.inl m89, st_e (q := ((41, 3), (0, 90))) (by decide), st_e (q := ((41, 5), (0, 66))) (by decide), bd0 m66 _, st_e (q := ((41, 7), (0, 70))) (by decide), bd0 m70 _, st_e (q := ((41, 10), (0, 74))) (by decide), bd0 m74 _⟩, fun b hb => no m66 hb, fun l hl => no m70 hl, fun t ht => no m74 ht, ⟨fun p hp => ⟨?_, ?_, fun _ => ⟨p64 p hp, p65 p hp⟩, Or.inl (p64 p hp), Or.inl (p65 p hp)⟩, fun p q h1 h2 => ⟨Or.inl (p64 p (by omega)), Or.inl (p65 p (by omega))⟩, fun t ht => no m74 ht⟩, ⟨fun m hm => ⟨?_, ?_⟩, fun m hm => no k22 hm⟩⟩
    · exact st_e (q := ((270 + p, 0), (64, p))) (by rcases (by omega : p = 0 ∨ p = 1 ∨ p = 2 ∨ p = 3) with rfl | rfl | rfl | rfl <;> decide)
    · exact st_e (q := ((270 + p, 1), (65, p))) (by rcases (by omega : p = 0 ∨ p = 1 ∨ p = 2 ∨ p = 3) with rfl | rfl | rfl | rfl <;> decide)
    · exact st_e (q := ((85, m), (67, m))) (by rcases (by omega : m = 0 ∨ m = 1 ∨ m = 2 ∨ m = 3 ∨ m = 4 ∨ m = 5 ∨ m = 6 ∨ m = 7) with rfl | rfl | rfl | rfl | rfl | rfl | rfl | rfl <;> decide)
    · exact bd0 (st_m (q := ((67, m), 0)) (by rcases (by omega : m = 0 ∨ m = 1 ∨ m = 2 ∨ m = 3 ∨ m = 4 ∨ m = 5 ∨ m = 6 ∨ m = 7) with rfl | rfl | rfl | rfl | rfl | rfl | rfl | rfl <;> decide)) _
