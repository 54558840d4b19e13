/-! the numbers of laws -/
/-- within a million -/
def lB (v : Int) : Prop := -1000000 ≤ v ∧ v ≤ 1000000
theorem iI_t {v : Int} (h : lB v) : (Int32.ofInt v).toInt = v := Int32.toInt_ofInt_of_le (by unfold lB at h; omega) (by unfold lB at h; omega)
theorem iL_t {v : Int} (h1 : -9223372036854775808 ≤ v) (h2 : v < 9223372036854775808) : (Int64.ofInt v).toInt = v := Int64.toInt_ofInt_of_le (by omega) (by omega)
theorem iL_B {v : Int} (h : lB v) : (Int64.ofInt v).toInt = v := iL_t (by unfold lB at h; omega) (by unfold lB at h; omega)
theorem l_bm (z : Int) (h1 : -9223372036854775808 ≤ z) (h2 : z < 9223372036854775808) : z.bmod (2 ^ 64) = z := by
  unfold Int.bmod; dsimp only; split <;> omega
theorem l_add {x y : Int64} (h1 : -9223372036854775808 ≤ x.toInt + y.toInt) (h2 : x.toInt + y.toInt < 9223372036854775808) : (x + y).toInt = x.toInt + y.toInt := by rw [Int64.toInt_add, l_bm _ h1 h2]
theorem l_sub {x y : Int64} (h1 : -9223372036854775808 ≤ x.toInt - y.toInt) (h2 : x.toInt - y.toInt < 9223372036854775808) : (x - y).toInt = x.toInt - y.toInt := by rw [Int64.toInt_sub, l_bm _ h1 h2]
theorem l_mul {x y : Int64} (h1 : -9223372036854775808 ≤ x.toInt * y.toInt) (h2 : x.toInt * y.toInt < 9223372036854775808) : (x * y).toInt = x.toInt * y.toInt := by rw [Int64.toInt_mul, l_bm _ h1 h2]
theorem i_mul {x y : Int32} (h1 : -2147483648 ≤ x.toInt * y.toInt) (h2 : x.toInt * y.toInt < 2147483648) : (x * y).toInt = x.toInt * y.toInt := by rw [Int32.toInt_mul, i_bm _ h1 h2]
theorem lB_mul {a b : Int} (ha : lB a) (hb : lB b) : -1000000000000 ≤ a * b ∧ a * b ≤ 1000000000000 := by
  have h : (a * b).natAbs ≤ 1000000 * 1000000 := by
    rw [Int.natAbs_mul]
    exact Nat.mul_le_mul (by unfold lB at ha; omega) (by unfold lB at hb; omega)
  omega
theorem lB_lb (v : Int) : lB (lb v) := by
  unfold lB lb
  split
  · omega
  · split <;> omega
theorem lcmp_t (x y : Int64) : (lg_cmp x y < 0 ↔ x.toInt < y.toInt) ∧ (0 < lg_cmp x y ↔ y.toInt < x.toInt) ∧ (lg_cmp x y = 0 ↔ x.toInt = y.toInt) ∧ (lg_cmp x y ≤ 0 ↔ x.toInt ≤ y.toInt) ∧ (0 ≤ lg_cmp x y ↔ y.toInt ≤ x.toInt) := by
  unfold lg_cmp
  by_cases h1 : x > y
  · rw [if_pos h1]
    have h : y.toInt < x.toInt := Int64.lt_iff_toInt_lt.mp h1
    refine ⟨⟨fun q => absurd q (by decide), fun q => by omega⟩, ⟨fun _ => h, fun _ => by decide⟩, ⟨fun q => absurd q (by decide), fun q => by omega⟩, ⟨fun q => absurd q (by decide), fun q => by omega⟩, ⟨fun _ => by omega, fun _ => by decide⟩⟩
  · rw [if_neg h1]
    have h : ¬ y.toInt < x.toInt := fun q => h1 (Int64.lt_iff_toInt_lt.mpr q)
    by_cases h2 : x = y
    · rw [if_pos h2]
      subst h2
      refine ⟨⟨fun q => absurd q (by decide), fun q => by omega⟩, ⟨fun q => absurd q (by decide), fun q => by omega⟩, ⟨fun _ => rfl, fun _ => rfl⟩, ⟨fun _ => by omega, fun _ => by decide⟩, ⟨fun _ => by omega, fun _ => by decide⟩⟩
    · rw [if_neg h2]
      have h3 : ¬ x.toInt = y.toInt := fun q => h2 (Int64.toInt_inj.mp q)
      refine ⟨⟨fun _ => by omega, fun _ => by decide⟩, ⟨fun q => absurd q (by decide), fun q => by omega⟩, ⟨fun q => absurd q (by decide), fun q => by omega⟩, ⟨fun _ => by omega, fun _ => by decide⟩, ⟨fun q => absurd q (by decide), fun q => by omega⟩⟩
/-- quotient and rest -/
theorem td_b {a b : Int} (ha : lB a) (hb : lB b) (h0 : b ≠ 0) : lB (Int.tdiv a b) ∧ (Int.tmod a b ≠ 0 → -500000 ≤ Int.tdiv a b ∧ Int.tdiv a b ≤ 500000) ∧ lB (Int.tmod a b) ∧ (Int.tmod a b ≠ 0 → ¬ (a < 0 ↔ b < 0) → lB (Int.tmod a b + b)) := by
  have h1 := Int.natAbs_tdiv a b
  have h2 := Int.natAbs_tmod a b
  have e1 : (a.natAbs).div b.natAbs = a.natAbs / b.natAbs := rfl
  rw [e1] at h1
  have hb0 : 0 < b.natAbs := by omega
  have h3 := Nat.mod_lt a.natAbs hb0
  have h4 := Nat.div_le_self a.natAbs b.natAbs
  unfold lB at ha hb ⊢
  have sg1 : 0 ≤ a → 0 ≤ Int.tmod a b := Int.tmod_nonneg b
  have sg2 : a ≤ 0 → Int.tmod a b ≤ 0 := by
    intro q
    have := Int.tmod_nonneg (a := -a) b (by omega)
    rw [Int.neg_tmod] at this
    omega
  refine ⟨by omega, fun q => ?_, by omega, fun q1 q2 => ?_⟩
  · have b2 : 2 ≤ b.natAbs := by
      rcases Nat.lt_or_ge b.natAbs 2 with w | w
      · exfalso
        have : b.natAbs = 1 := by omega
        rw [this, Nat.mod_one] at h2
        omega
      · exact w
    have h5 : a.natAbs / b.natAbs ≤ a.natAbs / 2 := Nat.div_le_div_left b2 (by omega)
    omega
  · by_cases z : a < 0
    · have z2 : ¬ b < 0 := fun w => q2 ⟨fun _ => w, fun _ => z⟩
      have := sg2 (by omega)
      omega
    · have z2 : b < 0 := by
        rcases Int.lt_or_le b 0 with w | w
        · exact w
        · exact absurd ⟨fun y => absurd y z, fun y => by omega⟩ q2
      have := sg1 (by omega)
      omega
theorem x_sgn (x y : Int32) : 0 ≤ x ^^^ y ↔ (x.toInt < 0 ↔ y.toInt < 0) := by
  have m : ∀ z : Int32, z.toBitVec.msb = decide (z.toInt < 0) := fun z => BitVec.msb_eq_toInt
  have e : (x ^^^ y).toBitVec = x.toBitVec ^^^ y.toBitVec := rfl
  have h := m (x ^^^ y)
  rw [e, BitVec.msb_xor, m x, m y] at h
  rw [i_le]
  have z0 : (0 : Int32).toInt = 0 := rfl
  rw [z0]
  by_cases hx : x.toInt < 0
  · by_cases hy : y.toInt < 0
    · rw [decide_eq_true hx, decide_eq_true hy] at h
      have : ¬ (x ^^^ y).toInt < 0 := by
        intro q; rw [decide_eq_true q] at h; exact absurd h (by decide)
      exact ⟨fun _ => ⟨fun _ => hy, fun _ => hx⟩, fun _ => by omega⟩
    · rw [decide_eq_true hx, decide_eq_false hy] at h
      have : (x ^^^ y).toInt < 0 := by
        rcases Int.lt_or_le (x ^^^ y).toInt 0 with q | q
        · exact q
        · rw [decide_eq_false (show ¬ (x ^^^ y).toInt < 0 by omega)] at h; exact absurd h (by decide)
      exact ⟨fun q => by omega, fun q => absurd (q.mp hx) hy⟩
  · by_cases hy : y.toInt < 0
    · rw [decide_eq_false hx, decide_eq_true hy] at h
      have : (x ^^^ y).toInt < 0 := by
        rcases Int.lt_or_le (x ^^^ y).toInt 0 with q | q
        · exact q
        · rw [decide_eq_false (show ¬ (x ^^^ y).toInt < 0 by omega)] at h; exact absurd h (by decide)
      exact ⟨fun q => by omega, fun q => absurd (q.mpr hy) hx⟩
    · rw [decide_eq_false hx, decide_eq_false hy] at h
      have : ¬ (x ^^^ y).toInt < 0 := by
        intro q; rw [decide_eq_true q] at h; exact absurd h (by decide)
      exact ⟨fun _ => ⟨fun w => absurd w hx, fun w => absurd w hy⟩, fun _ => by omega⟩
theorem iI_eq {x : Int32} {v : Int} (h : lB v) (e : x.toInt = v) : x = Int32.ofInt v := by rw [i_eq, iI_t h]; exact e
theorem iL_eq {x : Int64} {v : Int} (h : lB v) (e : x.toInt = v) : x = Int64.ofInt v := Int64.toInt_inj.mp (by rw [iL_B h]; exact e)
/-- within(..) -/
theorem c_within (d : Nat) (I : tI) (J : tJ) (x : Bool) (y : Int64) : am_G (am_ev (d + 2)) 47 [.long y] (I, J, (tc_R x), tc_S, 289, 11479) = some (some (.int (Int32.ofInt (lb y.toInt))), (I, J, (tc_R x), tc_S, 289, 11479)) := by
  have m : (1000000 : Int64).toInt = 1000000 := by decide +kernel
  have m2 : (-1000000 : Int64).toInt = -1000000 := by decide +kernel
  have key : ∀ z : Int64, lB z.toInt → z.toInt32 = Int32.ofInt z.toInt := by
    intro z hz
    refine iI_eq hz ?_
    rw [Int64.toInt_toInt32]
    exact i_bm _ (by unfold lB at hz; omega) (by unfold lB at hz; omega)
  rw [b47_0, b291_0]
  unfold lb
  by_cases h1 : 0 < lg_cmp 1000000 y
  · have q1 := (lcmp_t 1000000 y).2.1.mp h1
    rw [m] at q1
    rw [if_pos h1, am_call_s, am_toL, b47_10, b289_0, if_neg (show ¬ (1000000 : Int) < y.toInt by omega)]
    by_cases h2 : lg_cmp (-1000000) y < 0
    · have q2 := (lcmp_t (-1000000) y).1.mp h2
      rw [m2] at q2
      rw [if_pos h2, am_call_s, am_toL, b47_13, if_neg (by omega), key y (by unfold lB; omega)]
    · have q2 : ¬ (-1000000 : Int64).toInt < y.toInt := fun w => h2 ((lcmp_t (-1000000) y).1.mpr w)
      rw [m2] at q2
      rw [if_neg h2, am_call_s, am_toL, b47_13]
      by_cases h3 : y.toInt < -1000000
      · rw [if_pos h3, key _ (by rw [m2]; unfold lB; omega), m2]
      · rw [if_neg h3, key _ (by rw [m2]; unfold lB; omega), m2, show y.toInt = -1000000 by omega]
  · have q1 : ¬ y.toInt < (1000000 : Int64).toInt := fun w => h1 ((lcmp_t 1000000 y).2.1.mpr w)
    rw [m] at q1
    have h2 : ¬ lg_cmp (-1000000) 1000000 = 0 ∧ lg_cmp (-1000000) 1000000 < 0 := by decide +kernel
    rw [if_neg h1, am_call_s, am_toL, b47_10, b289_0, if_pos h2.2, am_call_s, am_toL, b47_13, key _ (by rw [m]; unfold lB; omega), m]
    by_cases h3 : 1000000 < y.toInt
    · rw [if_pos h3]
    · rw [if_neg h3, if_neg (by omega), show y.toInt = 1000000 by omega]
/-- the class's number of an act -/
def l_ac (k : Nat) : Int32 := match k with
  | 10 => 43
  | 11 => 45
  | 12 => 42
  | 13 => 47
  | 14 => 37
  | 15 => 30
  | 16 => 31
  | 17 => 60
  | 18 => 62
  | 19 => 61
  | 20 => 22
  | _ => 21
theorem l_b01 {v : Int} (h : l_bool v = true) : v = 0 ∨ v = 1 := of_decide_eq_true h
theorem c_join (d : Nat) (I : tI) (J : tJ) (x : Bool) {k : Nat} {a b v : Int} (hk : 10 ≤ k ∧ k ≤ 21) (ha : lB a) (hb : lB b) (e : l_op2 k a b = some v) : am_G (am_ev (d + 3)) 46 [.int (l_ac k), .int (Int32.ofInt a), .int (Int32.ofInt b)] (I, J, (tc_R x), tc_S, 289, 11479) = some (some (.int (Int32.ofInt v)), (I, J, (tc_R x), tc_S, 289, 11479)) ∧ lB v := by
  have ta := iI_t ha
  have tb := iI_t hb
  have la : (Int32.toInt64 (Int32.ofInt a)).toInt = a := by rw [Int32.toInt_toInt64, ta]
  have lb' : (Int32.toInt64 (Int32.ofInt b)).toInt = b := by rw [Int32.toInt_toInt64, tb]
  have mb := lB_mul ha hb
  have z0 : (0 : Int32).toInt = 0 := rfl
  have b0 : Int32.ofInt b = 0 ↔ b = 0 := by rw [i_eq, tb, z0]
  have hk' : k = 10 ∨ k = 11 ∨ k = 12 ∨ k = 13 ∨ k = 14 ∨ k = 15 ∨ k = 16 ∨ k = 17 ∨ k = 18 ∨ k = 19 ∨ k = 20 ∨ k = 21 := by omega
  have lBa := ha
  have lBb := hb
  unfold lB at ha hb
  rw [b46_0]
  rcases hk' with rfl | rfl | rfl | rfl | rfl | rfl | rfl | rfl | rfl | rfl | rfl | rfl
  · cases e
    refine ⟨?_, lB_lb _⟩
    rw [show l_ac 10 = 43 from rfl, if_neg (by decide : ¬ (43 : Int32) = 21), if_neg (by decide : ¬ (43 : Int32) = 22), if_neg (by decide : ¬ (43 : Int32) = 23), if_neg (by decide : ¬ (43 : Int32) = 24), if_neg (by decide : ¬ (43 : Int32) = 25), if_neg (by decide : ¬ (43 : Int32) = 26), if_neg (by decide : ¬ (43 : Int32) = 27), if_neg (by decide : ¬ (43 : Int32) = 28), if_neg (by decide : ¬ (43 : Int32) = 29), if_neg (by decide : ¬ (43 : Int32) = 30), if_neg (by decide : ¬ (43 : Int32) = 31), if_neg (by decide : ¬ (43 : Int32) = 32), if_neg (by decide : ¬ (43 : Int32) = 33), if_neg (by decide : ¬ (43 : Int32) = 34), if_neg (by decide : ¬ (43 : Int32) = 35), if_neg (by decide : ¬ (43 : Int32) = 36), if_neg (by decide : ¬ (43 : Int32) = 37), if_neg (by decide : ¬ (43 : Int32) = 38), if_neg (by decide : ¬ (43 : Int32) = 39), if_neg (by decide : ¬ (43 : Int32) = 40), if_neg (by decide : ¬ (43 : Int32) = 41), if_neg (by decide : ¬ (43 : Int32) = 42), if_pos (rfl : (43 : Int32) = 43), c_within, am_call_s, am_toL, b46_245, l_add (by rw [la, lb']; omega) (by rw [la, lb']; omega), la, lb']
  · cases e
    refine ⟨?_, lB_lb _⟩
    rw [show l_ac 11 = 45 from rfl, if_neg (by decide : ¬ (45 : Int32) = 21), if_neg (by decide : ¬ (45 : Int32) = 22), if_neg (by decide : ¬ (45 : Int32) = 23), if_neg (by decide : ¬ (45 : Int32) = 24), if_neg (by decide : ¬ (45 : Int32) = 25), if_neg (by decide : ¬ (45 : Int32) = 26), if_neg (by decide : ¬ (45 : Int32) = 27), if_neg (by decide : ¬ (45 : Int32) = 28), if_neg (by decide : ¬ (45 : Int32) = 29), if_neg (by decide : ¬ (45 : Int32) = 30), if_neg (by decide : ¬ (45 : Int32) = 31), if_neg (by decide : ¬ (45 : Int32) = 32), if_neg (by decide : ¬ (45 : Int32) = 33), if_neg (by decide : ¬ (45 : Int32) = 34), if_neg (by decide : ¬ (45 : Int32) = 35), if_neg (by decide : ¬ (45 : Int32) = 36), if_neg (by decide : ¬ (45 : Int32) = 37), if_neg (by decide : ¬ (45 : Int32) = 38), if_neg (by decide : ¬ (45 : Int32) = 39), if_neg (by decide : ¬ (45 : Int32) = 40), if_neg (by decide : ¬ (45 : Int32) = 41), if_neg (by decide : ¬ (45 : Int32) = 42), if_neg (by decide : ¬ (45 : Int32) = 43), if_neg (by decide : ¬ (45 : Int32) = 44), if_pos (rfl : (45 : Int32) = 45), c_within, am_call_s, am_toL, b46_254, l_sub (by rw [la, lb']; omega) (by rw [la, lb']; omega), la, lb']
  · cases e
    refine ⟨?_, lB_lb _⟩
    rw [show l_ac 12 = 42 from rfl, if_neg (by decide : ¬ (42 : Int32) = 21), if_neg (by decide : ¬ (42 : Int32) = 22), if_neg (by decide : ¬ (42 : Int32) = 23), if_neg (by decide : ¬ (42 : Int32) = 24), if_neg (by decide : ¬ (42 : Int32) = 25), if_neg (by decide : ¬ (42 : Int32) = 26), if_neg (by decide : ¬ (42 : Int32) = 27), if_neg (by decide : ¬ (42 : Int32) = 28), if_neg (by decide : ¬ (42 : Int32) = 29), if_neg (by decide : ¬ (42 : Int32) = 30), if_neg (by decide : ¬ (42 : Int32) = 31), if_neg (by decide : ¬ (42 : Int32) = 32), if_neg (by decide : ¬ (42 : Int32) = 33), if_neg (by decide : ¬ (42 : Int32) = 34), if_neg (by decide : ¬ (42 : Int32) = 35), if_neg (by decide : ¬ (42 : Int32) = 36), if_neg (by decide : ¬ (42 : Int32) = 37), if_neg (by decide : ¬ (42 : Int32) = 38), if_neg (by decide : ¬ (42 : Int32) = 39), if_neg (by decide : ¬ (42 : Int32) = 40), if_neg (by decide : ¬ (42 : Int32) = 41), if_pos (rfl : (42 : Int32) = 42), c_within, am_call_s, am_toL, b46_263, l_mul (by rw [la, lb']; omega) (by rw [la, lb']; omega), la, lb']
  · cases e
    rw [show l_ac 13 = 47 from rfl, if_neg (by decide : ¬ (47 : Int32) = 21), if_neg (by decide : ¬ (47 : Int32) = 22), if_neg (by decide : ¬ (47 : Int32) = 23), if_neg (by decide : ¬ (47 : Int32) = 24), if_neg (by decide : ¬ (47 : Int32) = 25), if_neg (by decide : ¬ (47 : Int32) = 26), if_neg (by decide : ¬ (47 : Int32) = 27), if_neg (by decide : ¬ (47 : Int32) = 28), if_neg (by decide : ¬ (47 : Int32) = 29), if_neg (by decide : ¬ (47 : Int32) = 30), if_neg (by decide : ¬ (47 : Int32) = 31), if_neg (by decide : ¬ (47 : Int32) = 32), if_neg (by decide : ¬ (47 : Int32) = 33), if_neg (by decide : ¬ (47 : Int32) = 34), if_neg (by decide : ¬ (47 : Int32) = 35), if_neg (by decide : ¬ (47 : Int32) = 36), if_neg (by decide : ¬ (47 : Int32) = 37), if_neg (by decide : ¬ (47 : Int32) = 38), if_neg (by decide : ¬ (47 : Int32) = 39), if_neg (by decide : ¬ (47 : Int32) = 40), if_neg (by decide : ¬ (47 : Int32) = 41), if_neg (by decide : ¬ (47 : Int32) = 42), if_neg (by decide : ¬ (47 : Int32) = 43), if_neg (by decide : ¬ (47 : Int32) = 44), if_neg (by decide : ¬ (47 : Int32) = 45), if_neg (by decide : ¬ (47 : Int32) = 46), if_pos (rfl : (47 : Int32) = 47)]
    by_cases q : b = 0
    · rw [if_pos (b0.mpr q), if_pos q, b46_277]; exact ⟨rfl, by unfold lB; omega⟩
    · obtain ⟨d1, d2, d3, d4⟩ := td_b lBa lBb q
      have dv : (Int32.ofInt a / Int32.ofInt b).toInt = Int.tdiv a b := by
        rw [Int32.toInt_div, ta, tb]; exact i_bm _ (by unfold lB at d1; omega) (by unfold lB at d1; omega)
      have tm := Int.tmod_add_tdiv_mul a b
      rw [if_neg (fun w => q (b0.mp w)), if_neg q, b286_0, if_neg (fun w => q (b0.mp w))]
      have sx := x_sgn (Int32.ofInt a) (Int32.ofInt b)
      rw [ta, tb] at sx
      by_cases s : (a < 0 ↔ b < 0)
      · rw [if_pos (sx.mpr s), if_neg (fun w => w.2 s), am_call_s, am_toL, b46_277, iI_eq d1 dv]; exact ⟨rfl, d1⟩
      · rw [if_neg (fun w => s (sx.mp w))]
        have mm : (Int32.ofInt a / Int32.ofInt b * Int32.ofInt b).toInt = Int.tdiv a b * b := by
          unfold lB at d3
          rw [i_mul (by rw [dv, tb]; omega) (by rw [dv, tb]; omega), dv, tb]
        by_cases r : Int.tmod a b = 0
        · rw [if_pos (by rw [i_eq, mm, ta]; omega), if_neg (fun w => w.1 r), am_call_s, am_toL, b46_277, iI_eq d1 dv]; exact ⟨rfl, d1⟩
        · have o1 : (1 : Int32).toInt = 1 := rfl
          have d2' := d2 r
          have lq : lB (Int.tdiv a b - 1) := by unfold lB; omega
          have ev : Int32.ofInt a / Int32.ofInt b - 1 = Int32.ofInt (Int.tdiv a b - 1) := by
            refine iI_eq lq ?_
            rw [i_sub (by rw [dv, o1]; omega) (by rw [dv, o1]; omega), dv, o1]
          rw [if_neg (by rw [i_eq, mm, ta]; omega), if_pos ⟨r, s⟩, am_call_s, am_toL, b46_277, ev]; exact ⟨rfl, lq⟩
  · cases e
    rw [show l_ac 14 = 37 from rfl, if_neg (by decide : ¬ (37 : Int32) = 21), if_neg (by decide : ¬ (37 : Int32) = 22), if_neg (by decide : ¬ (37 : Int32) = 23), if_neg (by decide : ¬ (37 : Int32) = 24), if_neg (by decide : ¬ (37 : Int32) = 25), if_neg (by decide : ¬ (37 : Int32) = 26), if_neg (by decide : ¬ (37 : Int32) = 27), if_neg (by decide : ¬ (37 : Int32) = 28), if_neg (by decide : ¬ (37 : Int32) = 29), if_neg (by decide : ¬ (37 : Int32) = 30), if_neg (by decide : ¬ (37 : Int32) = 31), if_neg (by decide : ¬ (37 : Int32) = 32), if_neg (by decide : ¬ (37 : Int32) = 33), if_neg (by decide : ¬ (37 : Int32) = 34), if_neg (by decide : ¬ (37 : Int32) = 35), if_neg (by decide : ¬ (37 : Int32) = 36), if_pos (rfl : (37 : Int32) = 37)]
    by_cases q : b = 0
    · rw [if_pos (b0.mpr q), if_pos q, b46_291]; exact ⟨rfl, by unfold lB; omega⟩
    · obtain ⟨d1, d2, d3, d4⟩ := td_b lBa lBb q
      have dv : (Int32.ofInt a / Int32.ofInt b).toInt = Int.tdiv a b := by
        rw [Int32.toInt_div, ta, tb]; exact i_bm _ (by unfold lB at d1; omega) (by unfold lB at d1; omega)
      have tm := Int.tmod_add_tdiv_mul a b
      rw [if_neg (fun w => q (b0.mp w)), if_neg q, b287_0, if_neg (fun w => q (b0.mp w))]
      have sx := x_sgn (Int32.ofInt a) (Int32.ofInt b)
      rw [ta, tb] at sx
      have d3' := d3
      unfold lB at d3'
      have mm : (Int32.ofInt a / Int32.ofInt b * Int32.ofInt b).toInt = Int.tdiv a b * b := by
        rw [i_mul (by rw [dv, tb]; omega) (by rw [dv, tb]; omega), dv, tb]
      have rm : (Int32.ofInt a - Int32.ofInt a / Int32.ofInt b * Int32.ofInt b).toInt = Int.tmod a b := by
        rw [i_sub (by rw [ta, mm]; omega) (by rw [ta, mm]; omega), ta, mm]; omega
      by_cases s : (a < 0 ↔ b < 0)
      · rw [if_pos (sx.mpr s), if_neg (fun w => w.2 s), am_call_s, am_toL, b46_291, iI_eq d3 rm]; exact ⟨rfl, d3⟩
      · rw [if_neg (fun w => s (sx.mp w))]
        by_cases r : Int.tmod a b = 0
        · rw [if_pos (by rw [i_eq, rm, z0]; exact r), if_neg (fun w => w.1 r), am_call_s, am_toL, b46_291, iI_eq d3 rm]; exact ⟨rfl, d3⟩
        · have lq := d4 r s
          have lq' := lq
          unfold lB at lq'
          have ev : Int32.ofInt a - Int32.ofInt a / Int32.ofInt b * Int32.ofInt b + Int32.ofInt b = Int32.ofInt (Int.tmod a b + b) := by
            refine iI_eq lq ?_
            rw [i_add (by rw [rm, tb]; omega) (by rw [rm, tb]; omega), rm, tb]
          rw [if_neg (by rw [i_eq, rm, z0]; exact r), if_pos ⟨r, s⟩, am_call_s, am_toL, b46_291, ev]; exact ⟨rfl, lq⟩
  · cases e
    rw [show l_ac 15 = 30 from rfl, if_neg (by decide : ¬ (30 : Int32) = 21), if_neg (by decide : ¬ (30 : Int32) = 22), if_neg (by decide : ¬ (30 : Int32) = 23), if_neg (by decide : ¬ (30 : Int32) = 24), if_neg (by decide : ¬ (30 : Int32) = 25), if_neg (by decide : ¬ (30 : Int32) = 26), if_neg (by decide : ¬ (30 : Int32) = 27), if_neg (by decide : ¬ (30 : Int32) = 28), if_neg (by decide : ¬ (30 : Int32) = 29), if_pos (rfl : (30 : Int32) = 30), b290_0]
    by_cases q : b < a
    · rw [if_pos (by rw [i_lt, ta, tb]; exact q), if_neg (by omega), am_call_s, am_toL, b46_197]; exact ⟨rfl, lBb⟩
    · rw [if_neg (by rw [i_lt, ta, tb]; exact q), am_call_s, am_toL, b46_197]
      by_cases q2 : a < b
      · rw [if_pos q2]; exact ⟨rfl, lBa⟩
      · rw [if_neg q2, show a = b by omega]; exact ⟨rfl, lBb⟩
  · cases e
    rw [show l_ac 16 = 31 from rfl, if_neg (by decide : ¬ (31 : Int32) = 21), if_neg (by decide : ¬ (31 : Int32) = 22), if_neg (by decide : ¬ (31 : Int32) = 23), if_neg (by decide : ¬ (31 : Int32) = 24), if_neg (by decide : ¬ (31 : Int32) = 25), if_neg (by decide : ¬ (31 : Int32) = 26), if_neg (by decide : ¬ (31 : Int32) = 27), if_neg (by decide : ¬ (31 : Int32) = 28), if_neg (by decide : ¬ (31 : Int32) = 29), if_neg (by decide : ¬ (31 : Int32) = 30), if_pos (rfl : (31 : Int32) = 31), b288_0]
    by_cases q : a < b
    · rw [if_pos (by rw [i_lt, ta, tb]; exact q), if_neg (by omega), am_call_s, am_toL, b46_203]; exact ⟨rfl, lBb⟩
    · rw [if_neg (by rw [i_lt, ta, tb]; exact q), am_call_s, am_toL, b46_203]
      by_cases q2 : b < a
      · rw [if_pos q2]; exact ⟨rfl, lBa⟩
      · rw [if_neg q2, show a = b by omega]; exact ⟨rfl, lBb⟩
  · cases e
    rw [show l_ac 17 = 60 from rfl, if_neg (by decide : ¬ (60 : Int32) = 21), if_neg (by decide : ¬ (60 : Int32) = 22), if_neg (by decide : ¬ (60 : Int32) = 23), if_neg (by decide : ¬ (60 : Int32) = 24), if_neg (by decide : ¬ (60 : Int32) = 25), if_neg (by decide : ¬ (60 : Int32) = 26), if_neg (by decide : ¬ (60 : Int32) = 27), if_neg (by decide : ¬ (60 : Int32) = 28), if_neg (by decide : ¬ (60 : Int32) = 29), if_neg (by decide : ¬ (60 : Int32) = 30), if_neg (by decide : ¬ (60 : Int32) = 31), if_neg (by decide : ¬ (60 : Int32) = 32), if_neg (by decide : ¬ (60 : Int32) = 33), if_neg (by decide : ¬ (60 : Int32) = 34), if_neg (by decide : ¬ (60 : Int32) = 35), if_neg (by decide : ¬ (60 : Int32) = 36), if_neg (by decide : ¬ (60 : Int32) = 37), if_neg (by decide : ¬ (60 : Int32) = 38), if_neg (by decide : ¬ (60 : Int32) = 39), if_neg (by decide : ¬ (60 : Int32) = 40), if_neg (by decide : ¬ (60 : Int32) = 41), if_neg (by decide : ¬ (60 : Int32) = 42), if_neg (by decide : ¬ (60 : Int32) = 43), if_neg (by decide : ¬ (60 : Int32) = 44), if_neg (by decide : ¬ (60 : Int32) = 45), if_neg (by decide : ¬ (60 : Int32) = 46), if_neg (by decide : ¬ (60 : Int32) = 47), if_neg (by decide : ¬ (60 : Int32) = 48), if_neg (by decide : ¬ (60 : Int32) = 49), if_neg (by decide : ¬ (60 : Int32) = 50), if_neg (by decide : ¬ (60 : Int32) = 51), if_neg (by decide : ¬ (60 : Int32) = 52), if_neg (by decide : ¬ (60 : Int32) = 53), if_neg (by decide : ¬ (60 : Int32) = 54), if_neg (by decide : ¬ (60 : Int32) = 55), if_neg (by decide : ¬ (60 : Int32) = 56), if_neg (by decide : ¬ (60 : Int32) = 57), if_neg (by decide : ¬ (60 : Int32) = 58), if_neg (by decide : ¬ (60 : Int32) = 59), if_pos (rfl : (60 : Int32) = 60)]
    by_cases q : a < b
    · rw [if_neg (by rw [i_le, ta, tb]; omega), if_pos q]; exact ⟨rfl, by unfold lB; omega⟩
    · rw [if_pos (by rw [i_le, ta, tb]; omega), if_neg q]; exact ⟨rfl, by unfold lB; omega⟩
  · cases e
    rw [show l_ac 18 = 62 from rfl, if_neg (by decide : ¬ (62 : Int32) = 21), if_neg (by decide : ¬ (62 : Int32) = 22), if_neg (by decide : ¬ (62 : Int32) = 23), if_neg (by decide : ¬ (62 : Int32) = 24), if_neg (by decide : ¬ (62 : Int32) = 25), if_neg (by decide : ¬ (62 : Int32) = 26), if_neg (by decide : ¬ (62 : Int32) = 27), if_neg (by decide : ¬ (62 : Int32) = 28), if_neg (by decide : ¬ (62 : Int32) = 29), if_neg (by decide : ¬ (62 : Int32) = 30), if_neg (by decide : ¬ (62 : Int32) = 31), if_neg (by decide : ¬ (62 : Int32) = 32), if_neg (by decide : ¬ (62 : Int32) = 33), if_neg (by decide : ¬ (62 : Int32) = 34), if_neg (by decide : ¬ (62 : Int32) = 35), if_neg (by decide : ¬ (62 : Int32) = 36), if_neg (by decide : ¬ (62 : Int32) = 37), if_neg (by decide : ¬ (62 : Int32) = 38), if_neg (by decide : ¬ (62 : Int32) = 39), if_neg (by decide : ¬ (62 : Int32) = 40), if_neg (by decide : ¬ (62 : Int32) = 41), if_neg (by decide : ¬ (62 : Int32) = 42), if_neg (by decide : ¬ (62 : Int32) = 43), if_neg (by decide : ¬ (62 : Int32) = 44), if_neg (by decide : ¬ (62 : Int32) = 45), if_neg (by decide : ¬ (62 : Int32) = 46), if_neg (by decide : ¬ (62 : Int32) = 47), if_neg (by decide : ¬ (62 : Int32) = 48), if_neg (by decide : ¬ (62 : Int32) = 49), if_neg (by decide : ¬ (62 : Int32) = 50), if_neg (by decide : ¬ (62 : Int32) = 51), if_neg (by decide : ¬ (62 : Int32) = 52), if_neg (by decide : ¬ (62 : Int32) = 53), if_neg (by decide : ¬ (62 : Int32) = 54), if_neg (by decide : ¬ (62 : Int32) = 55), if_neg (by decide : ¬ (62 : Int32) = 56), if_neg (by decide : ¬ (62 : Int32) = 57), if_neg (by decide : ¬ (62 : Int32) = 58), if_neg (by decide : ¬ (62 : Int32) = 59), if_neg (by decide : ¬ (62 : Int32) = 60), if_neg (by decide : ¬ (62 : Int32) = 61), if_pos (rfl : (62 : Int32) = 62)]
    by_cases q : b < a
    · rw [if_neg (by rw [i_le, ta, tb]; omega), if_pos q]; exact ⟨rfl, by unfold lB; omega⟩
    · rw [if_pos (by rw [i_le, ta, tb]; omega), if_neg q]; exact ⟨rfl, by unfold lB; omega⟩
  · cases e
    rw [show l_ac 19 = 61 from rfl, if_neg (by decide : ¬ (61 : Int32) = 21), if_neg (by decide : ¬ (61 : Int32) = 22), if_neg (by decide : ¬ (61 : Int32) = 23), if_neg (by decide : ¬ (61 : Int32) = 24), if_neg (by decide : ¬ (61 : Int32) = 25), if_neg (by decide : ¬ (61 : Int32) = 26), if_neg (by decide : ¬ (61 : Int32) = 27), if_neg (by decide : ¬ (61 : Int32) = 28), if_neg (by decide : ¬ (61 : Int32) = 29), if_neg (by decide : ¬ (61 : Int32) = 30), if_neg (by decide : ¬ (61 : Int32) = 31), if_neg (by decide : ¬ (61 : Int32) = 32), if_neg (by decide : ¬ (61 : Int32) = 33), if_neg (by decide : ¬ (61 : Int32) = 34), if_neg (by decide : ¬ (61 : Int32) = 35), if_neg (by decide : ¬ (61 : Int32) = 36), if_neg (by decide : ¬ (61 : Int32) = 37), if_neg (by decide : ¬ (61 : Int32) = 38), if_neg (by decide : ¬ (61 : Int32) = 39), if_neg (by decide : ¬ (61 : Int32) = 40), if_neg (by decide : ¬ (61 : Int32) = 41), if_neg (by decide : ¬ (61 : Int32) = 42), if_neg (by decide : ¬ (61 : Int32) = 43), if_neg (by decide : ¬ (61 : Int32) = 44), if_neg (by decide : ¬ (61 : Int32) = 45), if_neg (by decide : ¬ (61 : Int32) = 46), if_neg (by decide : ¬ (61 : Int32) = 47), if_neg (by decide : ¬ (61 : Int32) = 48), if_neg (by decide : ¬ (61 : Int32) = 49), if_neg (by decide : ¬ (61 : Int32) = 50), if_neg (by decide : ¬ (61 : Int32) = 51), if_neg (by decide : ¬ (61 : Int32) = 52), if_neg (by decide : ¬ (61 : Int32) = 53), if_neg (by decide : ¬ (61 : Int32) = 54), if_neg (by decide : ¬ (61 : Int32) = 55), if_neg (by decide : ¬ (61 : Int32) = 56), if_neg (by decide : ¬ (61 : Int32) = 57), if_neg (by decide : ¬ (61 : Int32) = 58), if_neg (by decide : ¬ (61 : Int32) = 59), if_neg (by decide : ¬ (61 : Int32) = 60), if_pos (rfl : (61 : Int32) = 61)]
    by_cases q : a = b
    · rw [if_pos (by rw [q]), if_pos q]; exact ⟨rfl, by unfold lB; omega⟩
    · rw [if_neg (by rw [i_eq, ta, tb]; exact q), if_neg q]; exact ⟨rfl, by unfold lB; omega⟩
  · have e : (if l_bool a = true ∧ l_bool b = true then some (a * b) else none) = some v := e
    by_cases q : l_bool a = true ∧ l_bool b = true
    · rw [if_pos q] at e
      cases e
      rw [show l_ac 20 = 22 from rfl, if_neg (by decide : ¬ (22 : Int32) = 21), if_pos (rfl : (22 : Int32) = 22)]
      rcases l_b01 q.1 with rfl | rfl <;> rcases l_b01 q.2 with rfl | rfl <;> exact ⟨rfl, by unfold lB; omega⟩
    · rw [if_neg q] at e; cases e
  · have e : (if l_bool a = true ∧ l_bool b = true then some (if a + b > 0 then (1 : Int) else 0) else none) = some v := e
    by_cases q : l_bool a = true ∧ l_bool b = true
    · rw [if_pos q] at e
      have e := Option.some.inj e
      subst e
      rw [show l_ac 21 = 21 from rfl, if_pos (rfl : (21 : Int32) = 21)]
      rcases l_b01 q.1 with rfl | rfl <;> rcases l_b01 q.2 with rfl | rfl <;> exact ⟨rfl, by unfold lB; decide⟩
    · rw [if_neg q] at e; cases e
