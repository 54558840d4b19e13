-- 286: java/lang/Math.floorDiv(II)I
set_option maxRecDepth 100000 in
theorem b286_0 (d : Nat) (M : am_M) (x0 : Int32) (x1 : Int32) : am_G (am_ev (d + 1)) 286 [.int x0, .int x1] M = (if x1 = 0 then none else (if 0 ≤ (x0 ^^^ x1) then some (some (.int (x0 / x1)), M) else (if ((x0 / x1) * x1) = x0 then some (some (.int (x0 / x1)), M) else some (some (.int ((x0 / x1) - (1 : Int32))), M)))) := (am_G_eq (Nat.le_of_ble_eq_true rfl)).trans ((am_blk (fun pc => false) 19 d 286 0 _ _ _).trans rfl)
-- 287: java/lang/Math.floorMod(II)I
set_option maxRecDepth 100000 in
theorem b287_0 (d : Nat) (M : am_M) (x0 : Int32) (x1 : Int32) : am_G (am_ev (d + 1)) 287 [.int x0, .int x1] M = (if x1 = 0 then none else (if 0 ≤ (x0 ^^^ x1) then some (some (.int (x0 - x0 / x1 * x1)), M) else (if (x0 - x0 / x1 * x1) = 0 then some (some (.int (x0 - x0 / x1 * x1)), M) else some (some (.int ((x0 - x0 / x1 * x1) + x1)), M)))) := (am_G_eq (Nat.le_of_ble_eq_true rfl)).trans ((am_blk (fun pc => false) 16 d 287 0 _ _ _).trans rfl)
-- 288: java/lang/Math.max(II)I
set_option maxRecDepth 100000 in
theorem b288_0 (d : Nat) (M : am_M) (x0 : Int32) (x1 : Int32) : am_G (am_ev (d + 1)) 288 [.int x0, .int x1] M = (if x0 < x1 then some (some (.int x1), M) else some (some (.int x0), M)) := (am_G_eq (Nat.le_of_ble_eq_true rfl)).trans ((am_blk (fun pc => false) 8 d 288 0 _ _ _).trans rfl)
-- 289: java/lang/Math.max(JJ)J
set_option maxRecDepth 100000 in
theorem b289_0 (d : Nat) (M : am_M) (y0 : Int64) (y2 : Int64) : am_G (am_ev (d + 1)) 289 [.long y0, .long y2] M = (if (lg_cmp y0 y2) < 0 then some (some (.long y2), M) else some (some (.long y0), M)) := (am_G_eq (Nat.le_of_ble_eq_true rfl)).trans ((am_blk (fun pc => false) 9 d 289 0 _ _ _).trans rfl)
-- 290: java/lang/Math.min(II)I
set_option maxRecDepth 100000 in
theorem b290_0 (d : Nat) (M : am_M) (x0 : Int32) (x1 : Int32) : am_G (am_ev (d + 1)) 290 [.int x0, .int x1] M = (if x1 < x0 then some (some (.int x1), M) else some (some (.int x0), M)) := (am_G_eq (Nat.le_of_ble_eq_true rfl)).trans ((am_blk (fun pc => false) 8 d 290 0 _ _ _).trans rfl)
-- 291: java/lang/Math.min(JJ)J
set_option maxRecDepth 100000 in
theorem b291_0 (d : Nat) (M : am_M) (y0 : Int64) (y2 : Int64) : am_G (am_ev (d + 1)) 291 [.long y0, .long y2] M = (if 0 < (lg_cmp y0 y2) then some (some (.long y2), M) else some (some (.long y0), M)) := (am_G_eq (Nat.le_of_ble_eq_true rfl)).trans ((am_blk (fun pc => false) 9 d 291 0 _ _ _).trans rfl)
-- 292: java/util/Arrays.fill([II)V
