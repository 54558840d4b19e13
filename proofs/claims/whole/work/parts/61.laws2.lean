/-! the model's made; both machines of laws -/
theorem m_bounded (d : Nat) (I : tI) (J : tJ) (y : Int64) : am_G (am_ev (d + 1)) 205 [.long y] (I, J, tm_R, tm_S, 77, 21637) = some (some (.long (Int64.ofInt (lb y.toInt))), (I, J, tm_R, tm_S, 77, 21637)) := by
  have m : (1000000 : Int64).toInt = 1000000 := by decide +kernel
  have m2 : (-1000000 : Int64).toInt = -1000000 := by decide +kernel
  rw [b205_0]
  unfold lb
  by_cases h1 : lg_cmp y 1000000 ≤ 0
  · have q1 := (lcmp_t y 1000000).2.2.2.1.mp h1
    rw [m] at q1
    rw [if_pos h1, if_neg (show ¬ (1000000 : Int) < y.toInt by omega)]
    by_cases h2 : 0 ≤ lg_cmp y (-1000000)
    · have q2 := (lcmp_t y (-1000000)).2.2.2.2.mp h2
      rw [m2] at q2
      rw [if_pos h2, if_neg (show ¬ y.toInt < -1000000 by omega)]
      have e : y = Int64.ofInt y.toInt := iL_eq (by unfold lB; omega) rfl
      rw [← e]
    · have q2 : ¬ (-1000000 : Int64).toInt ≤ y.toInt := fun w => h2 ((lcmp_t y (-1000000)).2.2.2.2.mpr w)
      rw [m2] at q2
      rw [if_neg h2, if_pos (show y.toInt < -1000000 by omega)]
      rfl
  · have q1 : ¬ y.toInt ≤ (1000000 : Int64).toInt := fun w => h1 ((lcmp_t y 1000000).2.2.2.1.mpr w)
    rw [m] at q1
    rw [if_neg h1, if_pos (show (1000000 : Int) < y.toInt by omega)]
    rfl
theorem m_over (d : Nat) (I : tI) (J : tJ) {a b : Int} (ha : lB a) (hb : lB b) : am_G (am_ev (d + 1)) 206 [.long (Int64.ofInt a), .long (Int64.ofInt b)] (I, J, tm_R, tm_S, 77, 21637) = some (some (.long (Int64.ofInt (if b = 0 then 0 else if Int.tmod a b ≠ 0 ∧ ¬ (a < 0 ↔ b < 0) then Int.tdiv a b - 1 else Int.tdiv a b))), (I, J, tm_R, tm_S, 77, 21637)) := by
  have ta := iL_B ha
  have tb := iL_B hb
  have z0 : (0 : Int64).toInt = 0 := rfl
  have o1 : (1 : Int64).toInt = 1 := rfl
  have cb := lcmp_t (Int64.ofInt b) 0
  have ca := lcmp_t (Int64.ofInt a) 0
  rw [tb, z0] at cb
  rw [ta, z0] at ca
  have n0 : Int64.ofInt b = 0 ↔ b = 0 := by rw [← Int64.toInt_inj, tb, z0]
  rw [b206_0]
  by_cases q : b = 0
  · rw [if_pos (cb.2.2.1.mpr q), if_pos q]; rfl
  · obtain ⟨d1, d2, d3, d4⟩ := td_b ha hb q
    have dv : (Int64.ofInt a / Int64.ofInt b).toInt = Int.tdiv a b := by
      rw [Int64.toInt_div, ta, tb]; exact l_bm _ (by unfold lB at d1; omega) (by unfold lB at d1; omega)
    have tm := Int.tmod_add_tdiv_mul a b
    have d3' := d3
    unfold lB at d3' ha hb
    have mm : (Int64.ofInt a / Int64.ofInt b * Int64.ofInt b).toInt = Int.tdiv a b * b := by
      rw [l_mul (by rw [dv, tb]; omega) (by rw [dv, tb]; omega), dv, tb]
    have rm : (Int64.ofInt a - Int64.ofInt a / Int64.ofInt b * Int64.ofInt b).toInt = Int.tmod a b := by
      rw [l_sub (by rw [ta, mm]; omega) (by rw [ta, mm]; omega), ta, mm]; omega
    have cr := lcmp_t (Int64.ofInt a - Int64.ofInt a / Int64.ofInt b * Int64.ofInt b) 0
    rw [rm, z0] at cr
    rw [if_neg (fun w => q (cb.2.2.1.mp w)), if_neg (fun w => q (n0.mp w)), if_neg (fun w => q (n0.mp w)), if_neg q]
    have edv : Int64.ofInt a / Int64.ofInt b = Int64.ofInt (Int.tdiv a b) := iL_eq d1 dv
    by_cases r : Int.tmod a b = 0
    · rw [if_pos (cr.2.2.1.mpr r), if_neg (fun w => w.1 r), edv]
    · rw [if_neg (fun w => r (cr.2.2.1.mp w))]
      have d2' := d2 r
      have ev : Int64.ofInt a / Int64.ofInt b - 1 = Int64.ofInt (Int.tdiv a b - 1) := by
        refine iL_eq (by unfold lB; omega) ?_
        rw [l_sub (by rw [dv, o1]; omega) (by rw [dv, o1]; omega), dv, o1]
      by_cases sa : 0 ≤ a
      · rw [if_pos (ca.2.2.2.2.mpr sa), b206_32]
        by_cases sb : 0 ≤ b
        · rw [if_pos (cb.2.2.2.2.mpr sb), b206_43, if_pos rfl, if_neg (fun w => w.2 ⟨fun y => by omega, fun y => by omega⟩), edv]
        · rw [if_neg (fun w => sb (cb.2.2.2.2.mp w)), b206_43, if_neg (by decide), if_pos ⟨r, fun w => by omega⟩, ev]
      · rw [if_neg (fun w => sa (ca.2.2.2.2.mp w)), b206_32]
        by_cases sb : 0 ≤ b
        · rw [if_pos (cb.2.2.2.2.mpr sb), b206_43, if_neg (by decide), if_pos ⟨r, fun w => by omega⟩, ev]
        · rw [if_neg (fun w => sb (cb.2.2.2.2.mp w)), b206_43, if_pos rfl, if_neg (fun w => w.2 ⟨fun y => by omega, fun y => by omega⟩), edv]
theorem m_made (d : Nat) (I : tI) (J : tJ) {k : Nat} {a b v : Int} (hk : 10 ≤ k ∧ k ≤ 21) (ha : lB a) (hb : lB b) (e : l_op2 k a b = some v) : am_G (am_ev (d + 2)) 207 [.int (nI k), .long (Int64.ofInt a), .long (Int64.ofInt b)] (I, J, tm_R, tm_S, 77, 21637) = some (some (.long (Int64.ofInt v)), (I, J, tm_R, tm_S, 77, 21637)) := by
  have ta := iL_B ha
  have tb := iL_B hb
  have mb := lB_mul ha hb
  have z0 : (0 : Int64).toInt = 0 := rfl
  have cb := lcmp_t (Int64.ofInt b) 0
  rw [tb, z0] at cb
  have cab := lcmp_t (Int64.ofInt a) (Int64.ofInt b)
  rw [ta, tb] at cab
  have hk' : k = 10 ∨ k = 11 ∨ k = 12 ∨ k = 13 ∨ k = 14 ∨ k = 15 ∨ k = 16 ∨ k = 17 ∨ k = 18 ∨ k = 19 ∨ k = 20 ∨ k = 21 := by omega
  have lBa := ha
  have lBb := hb
  unfold lB at ha hb
  rw [b207_0]
  rcases hk' with rfl | rfl | rfl | rfl | rfl | rfl | rfl | rfl | rfl | rfl | rfl | rfl
  · cases e
    rw [show nI 10 = 10 from rfl, if_pos (rfl : (10 : Int32) = 10), m_bounded, am_call_s, am_toL, b207_66, l_add (by rw [ta, tb]; omega) (by rw [ta, tb]; omega), ta, tb]
  · cases e
    rw [show nI 11 = 11 from rfl, if_neg (by decide : ¬ (11 : Int32) = 10), if_pos (rfl : (11 : Int32) = 11), m_bounded, am_call_s, am_toL, b207_73, l_sub (by rw [ta, tb]; omega) (by rw [ta, tb]; omega), ta, tb]
  · cases e
    rw [show nI 12 = 12 from rfl, if_neg (by decide : ¬ (12 : Int32) = 10), if_neg (by decide : ¬ (12 : Int32) = 11), if_pos (rfl : (12 : Int32) = 12), m_bounded, am_call_s, am_toL, b207_80, l_mul (by rw [ta, tb]; omega) (by rw [ta, tb]; omega), ta, tb]
  · cases e
    rw [show nI 13 = 13 from rfl, if_neg (by decide : ¬ (13 : Int32) = 10), if_neg (by decide : ¬ (13 : Int32) = 11), if_neg (by decide : ¬ (13 : Int32) = 12), if_pos (rfl : (13 : Int32) = 13), m_over _ _ _ lBa lBb, am_call_s, am_toL, b207_86]
  · cases e
    rw [show nI 14 = 14 from rfl, if_neg (by decide : ¬ (14 : Int32) = 10), if_neg (by decide : ¬ (14 : Int32) = 11), if_neg (by decide : ¬ (14 : Int32) = 12), if_neg (by decide : ¬ (14 : Int32) = 13), if_pos (rfl : (14 : Int32) = 14)]
    by_cases q : b = 0
    · rw [if_pos (cb.2.2.1.mpr q), if_pos q]; rfl
    · obtain ⟨d1, d2, d3, d4⟩ := td_b lBa lBb q
      have tm := Int.tmod_add_tdiv_mul a b
      rw [if_neg (fun w => q (cb.2.2.1.mp w)), m_over _ _ _ lBa lBb, am_call_s, am_toL, b207_104, if_neg q, if_neg q]
      have d3' := d3
      unfold lB at d3'
      by_cases r : Int.tmod a b ≠ 0 ∧ ¬ (a < 0 ↔ b < 0)
      · rw [if_pos r, if_pos r]
        have d2' := d2 r.1
        have lq := d4 r.1 r.2
        have lq' := lq
        unfold lB at lq'
        have t1 : (Int64.ofInt (Int.tdiv a b - 1)).toInt = Int.tdiv a b - 1 := iL_t (by omega) (by omega)
        have e1 : b * (Int.tdiv a b - 1) = a - (Int.tmod a b + b) := by rw [Int.mul_sub, Int.mul_comm b]; omega
        have mm : (Int64.ofInt b * Int64.ofInt (Int.tdiv a b - 1)).toInt = a - (Int.tmod a b + b) := by
          rw [l_mul (by rw [tb, t1, e1]; omega) (by rw [tb, t1, e1]; omega), tb, t1, e1]
        rw [iL_eq lq (show (Int64.ofInt a - Int64.ofInt b * Int64.ofInt (Int.tdiv a b - 1)).toInt = Int.tmod a b + b by rw [l_sub (by rw [ta, mm]; omega) (by rw [ta, mm]; omega), ta, mm]; omega)]
      · rw [if_neg r, if_neg r]
        have t1 : (Int64.ofInt (Int.tdiv a b)).toInt = Int.tdiv a b := iL_B d1
        have e1 : b * (Int.tdiv a b) = a - Int.tmod a b := by rw [Int.mul_comm b]; omega
        have mm : (Int64.ofInt b * Int64.ofInt (Int.tdiv a b)).toInt = a - Int.tmod a b := by
          rw [l_mul (by rw [tb, t1, e1]; omega) (by rw [tb, t1, e1]; omega), tb, t1, e1]
        rw [iL_eq d3 (show (Int64.ofInt a - Int64.ofInt b * Int64.ofInt (Int.tdiv a b)).toInt = Int.tmod a b by rw [l_sub (by rw [ta, mm]; omega) (by rw [ta, mm]; omega), ta, mm]; omega)]
  · cases e
    rw [show nI 15 = 15 from rfl, if_neg (by decide : ¬ (15 : Int32) = 10), if_neg (by decide : ¬ (15 : Int32) = 11), if_neg (by decide : ¬ (15 : Int32) = 12), if_neg (by decide : ¬ (15 : Int32) = 13), if_neg (by decide : ¬ (15 : Int32) = 14), if_pos (rfl : (15 : Int32) = 15)]
    by_cases q : b ≤ a
    · rw [if_pos (cab.2.2.2.2.mpr q), if_neg (by omega)]
    · rw [if_neg (fun w => q (cab.2.2.2.2.mp w)), if_pos (by omega)]
  · cases e
    rw [show nI 16 = 16 from rfl, if_neg (by decide : ¬ (16 : Int32) = 10), if_neg (by decide : ¬ (16 : Int32) = 11), if_neg (by decide : ¬ (16 : Int32) = 12), if_neg (by decide : ¬ (16 : Int32) = 13), if_neg (by decide : ¬ (16 : Int32) = 14), if_neg (by decide : ¬ (16 : Int32) = 15), if_pos (rfl : (16 : Int32) = 16)]
    by_cases q : a ≤ b
    · rw [if_pos (cab.2.2.2.1.mpr q), if_neg (by omega)]
    · rw [if_neg (fun w => q (cab.2.2.2.1.mp w)), if_pos (by omega)]
  · cases e
    rw [show nI 17 = 17 from rfl, if_neg (by decide : ¬ (17 : Int32) = 10), if_neg (by decide : ¬ (17 : Int32) = 11), if_neg (by decide : ¬ (17 : Int32) = 12), if_neg (by decide : ¬ (17 : Int32) = 13), if_neg (by decide : ¬ (17 : Int32) = 14), if_neg (by decide : ¬ (17 : Int32) = 15), if_neg (by decide : ¬ (17 : Int32) = 16), if_pos (rfl : (17 : Int32) = 17)]
    by_cases q : b ≤ a
    · rw [if_pos (cab.2.2.2.2.mpr q), if_neg (by omega)]; rfl
    · rw [if_neg (fun w => q (cab.2.2.2.2.mp w)), if_pos (by omega)]; rfl
  · cases e
    rw [show nI 18 = 18 from rfl, if_neg (by decide : ¬ (18 : Int32) = 10), if_neg (by decide : ¬ (18 : Int32) = 11), if_neg (by decide : ¬ (18 : Int32) = 12), if_neg (by decide : ¬ (18 : Int32) = 13), if_neg (by decide : ¬ (18 : Int32) = 14), if_neg (by decide : ¬ (18 : Int32) = 15), if_neg (by decide : ¬ (18 : Int32) = 16), if_neg (by decide : ¬ (18 : Int32) = 17), if_pos (rfl : (18 : Int32) = 18)]
    by_cases q : a ≤ b
    · rw [if_pos (cab.2.2.2.1.mpr q), if_neg (by omega)]; rfl
    · rw [if_neg (fun w => q (cab.2.2.2.1.mp w)), if_pos (by omega)]; rfl
  · cases e
    rw [show nI 19 = 19 from rfl, if_neg (by decide : ¬ (19 : Int32) = 10), if_neg (by decide : ¬ (19 : Int32) = 11), if_neg (by decide : ¬ (19 : Int32) = 12), if_neg (by decide : ¬ (19 : Int32) = 13), if_neg (by decide : ¬ (19 : Int32) = 14), if_neg (by decide : ¬ (19 : Int32) = 15), if_neg (by decide : ¬ (19 : Int32) = 16), if_neg (by decide : ¬ (19 : Int32) = 17), if_neg (by decide : ¬ (19 : Int32) = 18), if_pos (rfl : (19 : Int32) = 19)]
    by_cases q : a = b
    · rw [if_pos (cab.2.2.1.mpr q), if_pos q]; rfl
    · rw [if_neg (fun w => q (cab.2.2.1.mp w)), if_neg q]; rfl
  · have e : (if l_bool a = true ∧ l_bool b = true then some (a * b) else none) = some v := e
    by_cases q : l_bool a = true ∧ l_bool b = true
    · rw [if_pos q] at e
      cases e
      rw [show nI 20 = 20 from rfl, if_neg (by decide : ¬ (20 : Int32) = 10), if_neg (by decide : ¬ (20 : Int32) = 11), if_neg (by decide : ¬ (20 : Int32) = 12), if_neg (by decide : ¬ (20 : Int32) = 13), if_neg (by decide : ¬ (20 : Int32) = 14), if_neg (by decide : ¬ (20 : Int32) = 15), if_neg (by decide : ¬ (20 : Int32) = 16), if_neg (by decide : ¬ (20 : Int32) = 17), if_neg (by decide : ¬ (20 : Int32) = 18), if_neg (by decide : ¬ (20 : Int32) = 19), if_pos (rfl : (20 : Int32) = 20)]
      rcases l_b01 q.1 with rfl | rfl <;> rcases l_b01 q.2 with rfl | rfl <;> rfl
    · rw [if_neg q] at e; cases e
  · have e : (if l_bool a = true ∧ l_bool b = true then some (if a + b > 0 then (1 : Int) else 0) else none) = some v := e
    by_cases q : l_bool a = true ∧ l_bool b = true
    · rw [if_pos q] at e
      have e := Option.some.inj e
      subst e
      rw [show nI 21 = 21 from rfl, if_neg (by decide : ¬ (21 : Int32) = 10), if_neg (by decide : ¬ (21 : Int32) = 11), if_neg (by decide : ¬ (21 : Int32) = 12), if_neg (by decide : ¬ (21 : Int32) = 13), if_neg (by decide : ¬ (21 : Int32) = 14), if_neg (by decide : ¬ (21 : Int32) = 15), if_neg (by decide : ¬ (21 : Int32) = 16), if_neg (by decide : ¬ (21 : Int32) = 17), if_neg (by decide : ¬ (21 : Int32) = 18), if_neg (by decide : ¬ (21 : Int32) = 19), if_neg (by decide : ¬ (21 : Int32) = 20)]
      rcases l_b01 q.1 with rfl | rfl <;> rcases l_b01 q.2 with rfl | rfl <;> rfl
    · rw [if_neg q] at e; cases e
