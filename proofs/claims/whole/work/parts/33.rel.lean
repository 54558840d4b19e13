/-! THE RELATION between the class's memory C and the model's M, J. x: which plan the floor has, and the model's bank. -/
def xb (x : Bool) : Nat := match x with
  | false => 0
  | true => 1
theorem xb1 (x : Bool) : xb x ≤ 1 := by cases x <;> decide
theorem xb_not (x : Bool) : xb (!x) = 1 - xb x := by cases x <;> rfl
/-! words: letters from 1 to 26, one to six of them -/
def wdOK (w : List Nat) : Prop := 1 ≤ w.length ∧ w.length ≤ 6 ∧ ∀ a ∈ w, 1 ≤ a ∧ a ≤ 26
def e5 : List Nat → Nat
  | [] => 0
  | a :: w => a + 32 * e5 w
def e8f (acc : Nat) : List Nat → Nat
  | [] => acc
  | a :: w => e8f (256 * acc + (96 + a)) w
def e8 (w : List Nat) : Nat := e8f 0 w
def nmR (v : Int32) (u : Int64) : Prop := ∃ w : List Nat, wdOK w ∧ v = nI (e5 w) ∧ u = Int64.ofNat (e8 w)
/-! the codes of laws: (sort, value) as the model numbers them -/
def lb (v : Int) : Int := if 1000000 < v then 1000000 else if v < -1000000 then -1000000 else v
def l_bool (v : Int) : Bool := decide (v = 0 ∨ v = 1)
def l_op2 (op : Nat) (a b : Int) : Option Int := match op with
  | 10 => some (lb (a + b))
  | 11 => some (lb (a - b))
  | 12 => some (lb (a * b))
  | 13 => some (if b = 0 then 0 else if Int.tmod a b ≠ 0 ∧ ¬ (a < 0 ↔ b < 0) then Int.tdiv a b - 1 else Int.tdiv a b)
  | 14 => some (if b = 0 then 0 else if Int.tmod a b ≠ 0 ∧ ¬ (a < 0 ↔ b < 0) then Int.tmod a b + b else Int.tmod a b)
  | 15 => some (if a < b then a else b)
  | 16 => some (if b < a then a else b)
  | 17 => some (if a < b then 1 else 0)
  | 18 => some (if b < a then 1 else 0)
  | 19 => some (if a = b then 1 else 0)
  | 20 => if l_bool a = true ∧ l_bool b = true then some (a * b) else none
  | 21 => if l_bool a = true ∧ l_bool b = true then some (if a + b > 0 then 1 else 0) else none
  | _ => none
/-- one code over a stack of at most h numbers; env: old, worn, at, kind, lay at 1 to 5 -/
def l_st (h : Nat) (env : Nat → Int) (c : Nat × Int) (S : List Int) : Option (List Int) :=
  if c.1 = 0 then (if S.length < h ∧ 0 ≤ c.2 ∧ c.2 ≤ 9999 then some (c.2 :: S) else none)
  else if c.1 ≤ 5 then (if S.length < h then some (env c.1 :: S) else none)
  else if c.1 = 9 then (if S.length < h then some (1 :: S) else none)
  else if c.1 = 22 then (match S with
    | a :: r => if l_bool a = true then some ((1 - a) :: r) else none
    | _ => none)
  else match S with
    | b :: a :: r => (l_op2 c.1 a b).map (fun v => v :: r)
    | _ => none
def l_rn (h : Nat) (env : Nat → Int) : List (Nat × Int) → List Int → Option (List Int)
  | [], S => some S
  | c :: T, S => (l_st h env c S).bind (l_rn h env T)
def l_env (env : Nat → Int) : Prop := ∀ k, -1 ≤ env k ∧ env k ≤ 99999
/-- how the class writes a code down -/
def l_cc (c : Nat × Int) : Int32 := match c.1 with
  | 0 => Int32.ofInt c.2
  | 1 => ~~~ 25
  | 2 => ~~~ 26
  | 3 => ~~~ 27
  | 4 => ~~~ 28
  | 5 => ~~~ 29
  | 9 => ~~~ 24
  | 10 => ~~~ 43
  | 11 => ~~~ 45
  | 12 => ~~~ 42
  | 13 => ~~~ 47
  | 14 => ~~~ 37
  | 15 => ~~~ 30
  | 16 => ~~~ 31
  | 17 => ~~~ 60
  | 18 => ~~~ 62
  | 19 => ~~~ 61
  | 20 => ~~~ 22
  | 21 => ~~~ 21
  | _ => ~~~ 23
def l_ok (A B : List (Nat × Int)) : Prop := ∀ env, l_env env → ∃ v : Int, (v = 0 ∨ v = 1) ∧ l_rn 64 env A [] = some [v] ∧ l_rn 1600 env B [] = some [v]
def l_atC (C : tI) (p s : Nat) (A : List (Nat × Int)) : Prop := ∀ i, i < A.length → C (p + 34) (s + i) = l_cc (A.getD i (0, 0))
def l_atM (M : tI) (b f : Nat) (B : List (Nat × Int)) : Prop := ∀ i, i < B.length → M 37 (1600 * b + (f + i)) = nI (B.getD i (0, 0)).1 ∧ M 38 (1600 * b + (f + i)) = Int32.ofInt (B.getD i (0, 0)).2
/-! the groups -/
def rl_T (C M : tI) : Prop := C 1 2 = M 0 1 ∧ bd (M 0 1) 1600 ∧ ∀ j, j < 1600 → C 3 j = M 1 j ∧ bd (M 1 j) 255
def rl_F (C M : tI) : Prop := C 1 7 = M 0 10 ∧ C 1 8 = M 0 11
def rl_N (C M : tI) : Prop := ∀ j, j < 6 → C 288 j = M 45 j
def rl_W (C M : tI) : Prop := C 0 8 = M 0 91
def rl_O (C M : tI) : Prop := C 0 7 = M 0 102 ∧ bd (M 0 102) 304 ∧ ∀ j, j < Int32.toNatClampNeg (M 0 102) → C 287 j = M 76 j
def rl_V (C M : tI) : Prop := (∀ i, i < 8 → C 286 i = M 63 (480 + i) ∧ bd (M 63 (480 + i)) 255) ∧ (∀ t i, t < Int32.toNatClampNeg (M 0 74) → i < 8 → C (150 + 2 * t + 1) i = M 63 (8 * t + i)) ∧ ∀ t i, t < 60 → i < 8 → bd (M 63 (8 * t + i)) 255 ∧ (Int32.toNatClampNeg (M 0 74) ≤ t → M 63 (8 * t + i) = 0)
def rl_own : List Nat := [24877, 180530, 5637779, 673840, 207, 20098100, 168247, 190771, 20105891, 20059310, 175572227, 20551248, 4609517, 20109612, 19042895, 802, 21140755, 171225619, 20597938, 4130, 464151, 591, 4545, 20974, 12673, 4495, 477687, 641, 145707, 25644, 14637, 24621]
def rl_Ow (C : tI) : Prop := ∀ j, j < 32 → C 2 j = nI (rl_own.getD j 0)
/-- counts of a plan -/
def rl_Pc (y : Bool) (C M : tI) : Prop := (C (tc_P y + 1) 0 = M 2 (xb y) ∧ bd (M 2 (xb y)) 6) ∧ (C (tc_P y + 1) 1 = M 6 (xb y) ∧ bd (M 6 (xb y)) 8) ∧ (C (tc_P y + 1) 2 = M 11 (xb y) ∧ bd (M 11 (xb y)) 6) ∧ (C (tc_P y + 1) 3 = M 20 (xb y) ∧ bd (M 20 (xb y)) 4) ∧ (C (tc_P y + 1) 4 = M 22 (xb y) ∧ bd (M 22 (xb y)) 8) ∧ (C (tc_P y + 1) 5 = M 26 (xb y) ∧ bd (M 26 (xb y)) 8) ∧ (C (tc_P y + 1) 6 = M 34 (xb y) ∧ bd (M 34 (xb y)) 8) ∧ (C (tc_P y + 1) 7 = M 14 (xb y) ∧ bd (M 14 (xb y)) 24) ∧ (C (tc_P y + 1) 8 = M 18 (xb y) ∧ bd (M 18 (xb y)) 30)
/-- names -/
def rl_Pn (y : Bool) (C M : tI) (J : tJ) : Prop := (∀ k, k < Int32.toNatClampNeg (M 2 (xb y)) → nmR (C (tc_P y + 3) k) (J 3 (6 * xb y + k))) ∧ (∀ k, k < Int32.toNatClampNeg (M 6 (xb y)) → nmR (C (tc_P y + 4) k) (J 7 (8 * xb y + k))) ∧ (∀ k, k < Int32.toNatClampNeg (M 11 (xb y)) → nmR (C (tc_P y + 5) k) (J 12 (6 * xb y + k))) ∧ (∀ k, k < Int32.toNatClampNeg (M 20 (xb y)) → nmR (C (tc_P y + 6) k) (J 21 (4 * xb y + k))) ∧ (∀ k, k < Int32.toNatClampNeg (M 22 (xb y)) → nmR (C (tc_P y + 7) k) (J 23 (8 * xb y + k)))
/-- mixes, parts, sizes -/
def rl_Pm (y : Bool) (C M : tI) : Prop := ∀ k, k < Int32.toNatClampNeg (M 2 (xb y)) → C (tc_P y + 8) k = M 4 (6 * xb y + k) ∧ C (tc_P y + 9) k = M 5 (6 * xb y + k) ∧ bd (M 4 (6 * xb y + k)) 999 ∧ bd (M 5 (6 * xb y + k)) 999 ∧ Int32.toNatClampNeg (M 4 (6 * xb y + k)) ≤ Int32.toNatClampNeg (M 5 (6 * xb y + k))
def rl_Pp (y : Bool) (C M : tI) : Prop := ∀ k, k < Int32.toNatClampNeg (M 6 (xb y)) → C (tc_P y + 10) k = M 8 (8 * xb y + k) ∧ C (tc_P y + 11) k = M 9 (8 * xb y + k) ∧ C (tc_P y + 12) k = M 10 (8 * xb y + k) ∧ bd (M 8 (8 * xb y + k)) 5 ∧ Int32.toNatClampNeg (M 8 (8 * xb y + k)) < Int32.toNatClampNeg (M 2 (xb y)) ∧ bd (M 9 (8 * xb y + k)) 99 ∧ 1 ≤ Int32.toNatClampNeg (M 9 (8 * xb y + k)) ∧ bd (M 10 (8 * xb y + k)) 99 ∧ 1 ≤ Int32.toNatClampNeg (M 10 (8 * xb y + k))
def rl_Ps (y : Bool) (C M : tI) : Prop := ∀ k, k < Int32.toNatClampNeg (M 11 (xb y)) → C (tc_P y + 13) k = M 13 (6 * xb y + k) ∧ bd (M 13 (6 * xb y + k)) 99 ∧ 1 ≤ Int32.toNatClampNeg (M 13 (6 * xb y + k))
/-- needs: the sum of those told; each is told once -/
def nd1 (M : tI) (b s q k : Nat) : Int32 := if M 15 (24 * b + k) = nI s ∧ M 17 (24 * b + k) = nI q then M 16 (24 * b + k) else 0
def ndS (M : tI) (b s q : Nat) : Nat → Int32
  | 0 => 0
  | n + 1 => ndS M b s q n + nd1 M b s q n
def rl_Pd (y : Bool) (C M : tI) : Prop := (∀ s q, s < 6 → q < 8 → C (tc_P y + 15 + s) q = ndS M (xb y) s q (Int32.toNatClampNeg (M 14 (xb y)))) ∧ (∀ k, k < Int32.toNatClampNeg (M 14 (xb y)) → bd (M 15 (24 * xb y + k)) 5 ∧ Int32.toNatClampNeg (M 15 (24 * xb y + k)) < Int32.toNatClampNeg (M 11 (xb y)) ∧ bd (M 17 (24 * xb y + k)) 7 ∧ Int32.toNatClampNeg (M 17 (24 * xb y + k)) < Int32.toNatClampNeg (M 6 (xb y)) ∧ bd (M 16 (24 * xb y + k)) 9 ∧ 1 ≤ Int32.toNatClampNeg (M 16 (24 * xb y + k))) ∧ ∀ k l, k < l → l < Int32.toNatClampNeg (M 14 (xb y)) → ¬ (M 15 (24 * xb y + k) = M 15 (24 * xb y + l) ∧ M 17 (24 * xb y + k) = M 17 (24 * xb y + l))
/-- changes -/
def rl_Pg (y : Bool) (C M : tI) : Prop := (∀ a c, a < 6 → c < 6 → (Int32.toNatClampNeg (M 11 (xb y)) ≤ a ∨ Int32.toNatClampNeg (M 11 (xb y)) ≤ c) → 0 < Int32.toNatClampNeg (M 11 (xb y)) → C (tc_P y + 22 + a) c = 1) ∧ (∀ a c, a < Int32.toNatClampNeg (M 11 (xb y)) → c < Int32.toNatClampNeg (M 11 (xb y)) → a ≠ c → C (tc_P y + 22 + a) c = M 19 (6 * (6 * xb y + a) + c)) ∧ ∀ a c, a < Int32.toNatClampNeg (M 11 (xb y)) → c < Int32.toNatClampNeg (M 11 (xb y)) → bd (M 19 (6 * (6 * xb y + a) + c)) 99 ∧ (a = c → M 19 (6 * (6 * xb y + a) + c) = 0)
/-- moulds, orders, sheets, rests -/
def rl_Po (y : Bool) (C M : tI) : Prop := (∀ k, k < Int32.toNatClampNeg (M 22 (xb y)) → C (tc_P y + 28) k = M 24 (8 * xb y + k) ∧ C (tc_P y + 29) k = M 25 (8 * xb y + k) ∧ bd (M 24 (8 * xb y + k)) 5 ∧ Int32.toNatClampNeg (M 24 (8 * xb y + k)) < Int32.toNatClampNeg (M 11 (xb y)) ∧ bd (M 25 (8 * xb y + k)) 99 ∧ 1 ≤ Int32.toNatClampNeg (M 25 (8 * xb y + k))) ∧ (∀ k, k < Int32.toNatClampNeg (M 26 (xb y)) → C (tc_P y + 30) k = M 27 (8 * xb y + k) ∧ C (tc_P y + 31) k = M 28 (8 * xb y + k) ∧ C (tc_P y + 32) k = M 29 (8 * xb y + k) ∧ bd (M 27 (8 * xb y + k)) 5 ∧ Int32.toNatClampNeg (M 27 (8 * xb y + k)) < Int32.toNatClampNeg (M 11 (xb y)) ∧ bd (M 28 (8 * xb y + k)) 60 ∧ 1 ≤ Int32.toNatClampNeg (M 28 (8 * xb y + k)) ∧ bd (M 29 (8 * xb y + k)) 9999)
/-- sheet, splice, rests; of a plan that no text told this is free -/
def rl_Pz (y : Bool) (C M : tI) : Prop := 0 < Int32.toNatClampNeg (M 6 (xb y)) ∨ 0 < Int32.toNatClampNeg (M 11 (xb y)) → C (tc_P y) 16 = M 30 (xb y) ∧ C (tc_P y) 17 = M 31 (xb y) ∧ C (tc_P y) 18 = M 32 (xb y) ∧ C (tc_P y) 19 = M 33 (xb y) ∧ bd (M 30 (xb y)) 400 ∧ 1 ≤ Int32.toNatClampNeg (M 30 (xb y)) ∧ bd (M 31 (xb y)) 9 ∧ bd (M 32 (xb y)) 999 ∧ bd (M 33 (xb y)) 999
/-- laws -/
def rl_L (y : Bool) (C M : tI) : Prop := ∀ k, k < Int32.toNatClampNeg (M 34 (xb y)) → ∃ (A B : List (Nat × Int)) (s f : Nat), C (tc_P y + 35) k = nI s ∧ C (tc_P y + 35) (k + 1) = nI (s + A.length) ∧ s + A.length ≤ 1600 ∧ M 35 (8 * xb y + k) = nI f ∧ M 36 (8 * xb y + k) = nI (f + B.length) ∧ f + B.length ≤ 1600 ∧ l_atC C (tc_P y) s A ∧ l_atM M (xb y) f B ∧ l_ok A B
def rl_P (y : Bool) (C M : tI) (J : tJ) : Prop := rl_Pc y C M ∧ rl_Pn y C M J ∧ rl_Pm y C M ∧ rl_Pp y C M ∧ rl_Ps y C M ∧ rl_Pd y C M ∧ rl_Pg y C M ∧ rl_Po y C M ∧ rl_Pz y C M ∧ rl_L y C M
/-! the floor -/
def rl_H0 (x : Bool) (C M : tI) : Prop := C 41 1 = M 0 65 ∧ bd (M 0 65) 9999 ∧ C 41 2 = M 0 89 ∧ (M 0 89 = -1 ∨ bd (M 0 89) 5 ∧ Int32.toNatClampNeg (M 0 89) < Int32.toNatClampNeg (M 11 (xb x))) ∧ C 41 3 = M 0 90 ∧ C 41 5 = M 0 66 ∧ bd (M 0 66) 24 ∧ C 41 7 = M 0 70 ∧ bd (M 0 70) 40 ∧ C 41 10 = M 0 74 ∧ bd (M 0 74) 60
def rl_Hb (x : Bool) (C M : tI) : Prop := ∀ b, b < Int32.toNatClampNeg (M 0 66) → C (86 + b) 0 = M 48 b ∧ C (86 + b) 1 = M 49 b ∧ C (86 + b) 2 = M 50 b ∧ bd (M 48 b) 5 ∧ Int32.toNatClampNeg (M 48 b) < Int32.toNatClampNeg (M 2 (xb x)) ∧ bd (M 49 b) 999 ∧ bd (M 50 b) 9999 ∧ Int32.toNatClampNeg (M 50 b) ≤ Int32.toNatClampNeg (M 0 65)
def rl_Hl (x : Bool) (C M : tI) : Prop := ∀ l, l < Int32.toNatClampNeg (M 0 70) → C (110 + l) 0 = M 51 l ∧ C (110 + l) 1 = M 52 l ∧ C (110 + l) 2 = M 53 l ∧ bd (M 51 l) 7 ∧ Int32.toNatClampNeg (M 51 l) < Int32.toNatClampNeg (M 6 (xb x)) ∧ bd (M 52 l) 23 ∧ Int32.toNatClampNeg (M 52 l) < Int32.toNatClampNeg (M 0 66) ∧ bd (M 53 l) 60
/-- tyres: size, state, built, made, old, worn, press; started and lay -/
def rl_Ht (x : Bool) (C M : tI) : Prop := ∀ t, t < Int32.toNatClampNeg (M 0 74) → C (150 + 2 * t) 0 = M 54 t ∧ C 82 t = M 55 t ∧ C (150 + 2 * t) 1 = M 56 t ∧ C (150 + 2 * t) 2 = M 57 t ∧ C (150 + 2 * t) 3 = M 58 t ∧ C (150 + 2 * t) 4 = M 59 t ∧ C (150 + 2 * t) 5 = M 60 t ∧ bd (M 54 t) 5 ∧ Int32.toNatClampNeg (M 54 t) < Int32.toNatClampNeg (M 11 (xb x)) ∧ bd (M 55 t) 3 ∧ bd (M 56 t) 9999 ∧ Int32.toNatClampNeg (M 56 t) ≤ Int32.toNatClampNeg (M 0 65) ∧ bd (M 58 t) 9999 ∧ (M 59 t = -1 ∨ bd (M 59 t) 99) ∧ (M 60 t = -1 ∨ bd (M 60 t) 3) ∧ ((C (150 + 2 * t) 6 = -1 ∧ M 61 t = -1 ∧ M 62 t = -1 ∧ (M 55 t = 0 ∨ M 55 t = 3)) ∨ (bd (C (150 + 2 * t) 6) 9999 ∧ Int32.toNatClampNeg (M 56 t) ≤ Int32.toNatClampNeg (C (150 + 2 * t) 6) ∧ Int32.toNatClampNeg (C (150 + 2 * t) 6) ≤ Int32.toNatClampNeg (M 0 65) ∧ M 61 t = C (150 + 2 * t) 6 - M 56 t ∧ M 55 t ≠ 0 ∧ bd (M 59 t) 99 ∧ bd (M 60 t) 3 ∧ (M 55 t = 2 ∨ M 55 t = 3 → M 62 t = C (150 + 2 * t) 6 + M 13 (6 * xb x + Int32.toNatClampNeg (M 54 t)) ∧ bd (M 62 t) 9999 ∧ Int32.toNatClampNeg (M 62 t) ≤ Int32.toNatClampNeg (M 0 65)) ∧ (M 55 t = 1 → M 62 t = -1)))
/-- presses -/
def rl_Hp (x : Bool) (C M : tI) : Prop := (∀ p, p < 4 → C (270 + p) 0 = M 64 p ∧ C (270 + p) 1 = M 65 p ∧ (Int32.toNatClampNeg (M 20 (xb x)) ≤ p → M 64 p = -1 ∧ M 65 p = -1) ∧ (M 64 p = -1 ∨ bd (M 64 p) 7 ∧ Int32.toNatClampNeg (M 64 p) < Int32.toNatClampNeg (M 22 (xb x))) ∧ (M 65 p = -1 ∨ (bd (M 65 p) 59 ∧ Int32.toNatClampNeg (M 65 p) < Int32.toNatClampNeg (M 0 74) ∧ M 55 (Int32.toNatClampNeg (M 65 p)) = 1 ∧ M 64 p ≠ -1 ∧ C (270 + p) 2 = M 66 p ∧ bd (M 66 p) 10098 ∧ Int32.toNatClampNeg (M 0 65) < Int32.toNatClampNeg (M 66 p) ∧ M 66 p = C (150 + 2 * Int32.toNatClampNeg (M 65 p)) 6 + M 13 (6 * xb x + Int32.toNatClampNeg (M 54 (Int32.toNatClampNeg (M 65 p))))))) ∧ (∀ p q, p < q → q < 4 → (M 64 p = -1 ∨ M 64 p ≠ M 64 q) ∧ (M 65 p = -1 ∨ M 65 p ≠ M 65 q)) ∧ ∀ t, t < Int32.toNatClampNeg (M 0 74) → M 55 t = 1 → ∃ p, p < 4 ∧ M 65 p = nI t
/-- moulds -/
def rl_Hm (x : Bool) (C M : tI) : Prop := (∀ m, m < 8 → C 85 m = M 67 m ∧ bd (M 67 m) 99) ∧ ∀ m, m < Int32.toNatClampNeg (M 22 (xb x)) → (C 84 m = -1 ∧ ∀ p, p < 4 → M 64 p ≠ nI m) ∨ ∃ p, p < Int32.toNatClampNeg (M 20 (xb x)) ∧ C 84 m = nI p ∧ M 64 p = nI m
def rl_H (x : Bool) (C M : tI) : Prop := rl_H0 x C M ∧ rl_Hb x C M ∧ rl_Hl x C M ∧ rl_Ht x C M ∧ rl_Hp x C M ∧ rl_Hm x C M
def Rl (x : Bool) (C M : tI) (J : tJ) : Prop := M 0 12 = nI (xb x) ∧ rl_T C M ∧ rl_F C M ∧ rl_N C M ∧ rl_W C M ∧ rl_O C M ∧ rl_V C M ∧ rl_Ow C ∧ rl_P x C M J ∧ rl_H x C M
/-- one call on both sides: the answers are alike, and the relation holds again -/
abbrev Lk (ci mi : Nat) (as : List Value) (x : Bool) (C M : tI) (Jc J : tJ) : Prop := ∃ (r : Int32) (x' : Bool) (C' M' : tI) (J' : tJ), am_G (am_ev 100) ci (.ref 0 :: as) (C, Jc, (tc_R x), tc_S, 289, 11479) = some (some (.int r), (C', Jc, (tc_R x'), tc_S, 289, 11479)) ∧ am_G (am_ev 100) mi (.ref 0 :: as) (M, J, tm_R, tm_S, 77, 21637) = some (some (.int r), (M', J', tm_R, tm_S, 77, 21637)) ∧ Rl x' C' M' J'
