/-! THE ABSTRACT MACHINE: methods run over a memory of functions; references are numbers of cells. -/
/-- ints, longs, references by cell and place; a cell's kind and length; how many cells, how many places -/
abbrev am_M : Type := (Nat → Nat → Int32) × (Nat → Nat → Int64) × (Nat → Nat → Option Nat) × (Nat → Nat × Nat) × Nat × Nat
/-- an instruction, its length, and what its pool entry or its target is: three numbers -/
abbrev am_E : Type := Instr × Nat × Nat × Nat × Nat
abbrev am_O : Type := Option (Option Value × am_M)
def am_u2 {α : Type} (I : Nat → Nat → α) (k j : Nat) (x : α) : Nat → Nat → α := fun a b => if a = k ∧ b = j then x else I a b
def am_row {α : Type} (I : Nat → Nat → α) (k : Nat) (r : Nat → α) : Nat → Nat → α := fun a b => if a = k then r b else I a b
def am_sI (M : am_M) (k j : Nat) (x : Int32) : am_M := (am_u2 M.1 k j x, M.2)
def am_sL (M : am_M) (k j : Nat) (x : Int64) : am_M := (M.1, am_u2 M.2.1 k j x, M.2.2)
def am_sR (M : am_M) (k j : Nat) (x : Option Nat) : am_M := (M.1, M.2.1, am_u2 M.2.2.1 k j x, M.2.2.2)
/-- a new cell: its kind, its length; all its places are zero -/
def am_al (M : am_M) (kd n : Nat) : am_M := (am_row M.1 M.2.2.2.2.1 (fun _ => 0), am_row M.2.1 M.2.2.2.2.1 (fun _ => 0), am_row M.2.2.1 M.2.2.2.2.1 (fun _ => none), (fun k => if k = M.2.2.2.2.1 then (kd, n) else M.2.2.2.1 k), M.2.2.2.2.1 + 1, M.2.2.2.2.2 + n)
/-- new int[n][m]: the row of rows, and its rows behind it -/
def am_al2 (M : am_M) (n m : Nat) : am_M := (fun a b => if M.2.2.2.2.1 ≤ a ∧ a ≤ M.2.2.2.2.1 + n then 0 else M.1 a b, fun a b => if M.2.2.2.2.1 ≤ a ∧ a ≤ M.2.2.2.2.1 + n then 0 else M.2.1 a b, fun a b => if a = M.2.2.2.2.1 then (if b < n then some (M.2.2.2.2.1 + 1 + b) else none) else if M.2.2.2.2.1 ≤ a ∧ a ≤ M.2.2.2.2.1 + n then none else M.2.2.1 a b, (fun k => if k = M.2.2.2.2.1 then (27, n) else if M.2.2.2.2.1 ≤ k ∧ k ≤ M.2.2.2.2.1 + n then (20, m) else M.2.2.2.1 k), M.2.2.2.2.1 + 1 + n, M.2.2.2.2.2 + (n + n * m))
/-- the marker of a local that isn't known -/
abbrev am_un : Value := .retAddr 0
def am_kill (L : List Value) : Nat → List Value
  | 0 => L
  | i + 1 => match L[i]? with
    | some v => if v.category = 2 then L.set i am_un else L
    | none => L
def am_set1 (L : List Value) (i : Nat) (v : Value) : List Value := (am_kill L i).set i v
def am_set2 (L : List Value) (i : Nat) (v : Value) : List Value := ((am_kill L i).set i v).set (i + 1) am_un
def am_spread : List Value → List Value
  | [] => []
  | v :: r => if v.category = 2 then v :: am_un :: am_spread r else v :: am_spread r
def am_pad (n : Nat) (L : List Value) : List Value := L ++ List.replicate (n - L.length) am_un
/-- kinds: below 13 an object of that class; 20 int[], 21 long[], 22 boolean[], 23 to 26 arrays of Batch, Lot, Press, Tyre, 27 int[][]; 30 the constant row -/
abbrev am_in (i : Int32) (n : Nat) : Prop := ¬ (i < 0 ∨ n ≤ i.toNatClampNeg)
abbrev am_at (M : am_M) (k kd : Nat) : Prop := (M.2.2.2.1 k).1 = kd ∧ k < M.2.2.2.2.1
def am_br (c : Prop) [Decidable c] (x y : am_O) : am_O := if c then x else y
def am_sw (x : Int32) (f : Nat → am_O) (d : Nat) : List (Int32 × Nat) → am_O
  | [] => f d
  | (k, t) :: r => if x = k then f t else am_sw x f d r
/-- what a value that a local may hold looks like -/
def am_isI (v : Option Value) (k : Int32 → am_O) : am_O := match v with
  | some (.int x) => k x
  | _ => none
def am_isL (v : Option Value) (k : Int64 → am_O) : am_O := match v with
  | some (.long x) => k x
  | _ => none
def am_isR (v : Option Value) (k : Nat → am_O) : am_O := match v with
  | some (.ref x) => k x
  | _ => none
/-- two ints, two longs, a reference, from the stack -/
def am_p2 (st : List Value) (k : Int32 → Int32 → List Value → am_O) : am_O := match st with
  | .int y :: .int x :: r => k x y r
  | _ => none
def am_p2L (st : List Value) (k : Int64 → Int64 → List Value → am_O) : am_O := match st with
  | .long y :: .long x :: r => k x y r
  | _ => none
def am_p1 (st : List Value) (k : Int32 → List Value → am_O) : am_O := match st with
  | .int x :: r => k x r
  | _ => none
def am_p1L (st : List Value) (k : Int64 → List Value → am_O) : am_O := match st with
  | .long x :: r => k x r
  | _ => none
def am_pR (st : List Value) (k : Nat → List Value → am_O) : am_O := match st with
  | .ref x :: r => k x r
  | _ => none
def am_pIR (st : List Value) (k : Int32 → Nat → List Value → am_O) : am_O := match st with
  | .int i :: .ref a :: r => k i a r
  | _ => none
def am_pVIR (st : List Value) (k : Value → Int32 → Nat → List Value → am_O) : am_O := match st with
  | v :: .int i :: .ref a :: r => k v i a r
  | _ => none
def am_pVR (st : List Value) (k : Value → Nat → List Value → am_O) : am_O := match st with
  | v :: .ref a :: r => k v a r
  | _ => none
/-- the three conditions of a branch -/
def am_cnd (c : ClassFile.Cond) (x y : Int32) (t e : am_O) : am_O := match c with
  | .eq => if x = y then t else e
  | .ne => if x = y then e else t
  | .lt => if x < y then t else e
  | .ge => if y ≤ x then t else e
  | .gt => if y < x then t else e
  | .le => if x ≤ y then t else e
/-- a field read, by its kind: 0 an int, 1 a long, 2 a reference, 3 a boolean -/
def am_gf (M : am_M) (k j kd : Nat) : Value := match kd with
  | 1 => .long (M.2.1 k j)
  | 2 => va_rf (M.2.2.1 k j)
  | _ => .int (M.1 k j)
def am_pf (M : am_M) (k j kd : Nat) (v : Value) (f : am_M → am_O) : am_O := match kd with
  | 0 => match v with
    | .int x => f (am_sI M k j x)
    | _ => none
  | 1 => match v with
    | .long x => f (am_sL M k j x)
    | _ => none
  | 2 => match v with
    | .ref x => f (am_sR M k j (some x))
    | .null => f (am_sR M k j none)
    | _ => none
  | _ => match v with
    | .int x => if x = 0 ∨ x = 1 then f (am_sI M k j x) else none
    | _ => none
def am_cats (st : List Value) : Nat := (st.map fun v => v.category).sum
def am_call (q : am_O) (k : Option Value → am_M → am_O) : am_O := match q with
  | some (r, M) => k r M
  | none => none
/-- the keys and targets of a table -/
def am_keys (pc : Nat) (lo : Int) : List Int → List (Int32 × Nat)
  | [] => []
  | o :: r => (Int32.ofInt lo, ((pc : Int) + o).toNat) :: am_keys pc (lo + 1) r
def am_pairs (pc : Nat) : List (Int × Int) → List (Int32 × Nat)
  | [] => []
  | (k, o) :: r => (Int32.ofInt k, ((pc : Int) + o).toNat) :: am_pairs pc r
/-- the constant row MOST_TOLD; the two texts: their signs; where a sign first stands -/
def am_ro : Nat → Int32 := fun j => ([6, 8, 6, 4, 8, 8, 8, 24, 30] : List Int32).getD j 0
def am_txt : Nat → List Int32 := fun k => match k with
  | 0 => [109, 105, 120, 32, 32, 32, 114, 105, 112, 101, 32, 32, 115, 116, 97, 108, 101, 32, 112, 97, 114, 116, 32, 32, 111, 102, 32, 32, 32, 32, 116, 97, 107, 101, 115, 32, 119, 105, 100, 101, 32, 32, 115, 105, 122, 101, 32, 32, 99, 117, 114, 101, 115, 32, 110, 101, 101, 100, 115, 32, 99, 104, 97, 110, 103, 101, 112, 114, 101, 115, 115, 32, 109, 111, 117, 108, 100, 32, 108, 105, 118, 101, 115, 32, 111, 114, 100, 101, 114, 32, 98, 121, 32, 32, 32, 32, 115, 104, 101, 101, 116, 32, 115, 112, 108, 105, 99, 101, 114, 101, 115, 116, 115, 32, 98, 97, 100, 32, 32, 32, 119, 104, 101, 110, 32, 32, 111, 114, 32, 32, 32, 32, 97, 110, 100, 32, 32, 32, 110, 111, 116, 32, 32, 32, 97, 108, 108, 32, 32, 32, 111, 108, 100, 32, 32, 32, 119, 111, 114, 110, 32, 32, 97, 116, 32, 32, 32, 32, 107, 105, 110, 100, 32, 32, 108, 97, 121, 32, 32, 32, 109, 105, 110, 32, 32, 32, 109, 97, 120, 32, 32, 32]
  | _ => [59, 60, 62, 61, 43, 45, 42, 47, 37, 40, 41, 91, 93, 44]
def am_ixF (c : Int32) : List Int32 → Nat → Int32
  | [], _ => -1
  | b :: l, k => if b = c then nI k else am_ixF c l (k + 1)
/-- a call; e: the callee, how many values it takes, its receiver's kind (40: none; 50: arraycopy; 60, 61: charAt, indexOf of a text; 99: Object's own constructor) -/
def am_inv (e : am_E) (g : Nat → List Value → am_M → am_O) (f : Nat → List Value → List Value → am_M → am_O) (pc : Nat) (L st : List Value) (M : am_M) : am_O :=
  match e.2.2.2.2 with
  | 99 => am_pR st fun _ r => if am_cats r ≤ 8 then f (pc + 3) L r M else none
  | 60 => am_pIR st fun i k r => if k = 1000000 ∧ i.toInt < 192 ∧ 0 ≤ i.toInt ∧ am_cats r ≤ 8 then f (pc + 3) L (.int ((am_txt 0).getD i.toNatClampNeg 0) :: r) M else none
  | 61 => am_pIR st fun c k r => if k = 1000001 ∧ am_cats r ≤ 8 then f (pc + 3) L (.int (am_ixF c (am_txt 1) 0) :: r) M else none
  | 50 => match st with
    | .int n :: .int dp :: .ref b :: .int sp :: .ref a :: r => if am_at M a 20 ∧ am_at M b 20 ∧ a ≠ b ∧ ¬ sp < 0 ∧ ¬ dp < 0 ∧ ¬ n < 0 ∧ sp.toNatClampNeg + n.toNatClampNeg ≤ (M.2.2.2.1 a).2 ∧ dp.toNatClampNeg + n.toNatClampNeg ≤ (M.2.2.2.1 b).2 ∧ am_cats r ≤ 8 then f (pc + 3) L r (am_row M.1 b (va_cpy (M.1 a) (M.1 b) sp.toNatClampNeg dp.toNatClampNeg n.toNatClampNeg), M.2) else none
    | _ => none
  | 40 => if am_cats (st.drop e.2.2.2.1) ≤ 8 ∧ e.2.2.2.1 ≤ st.length then am_call (g e.2.2.1 (st.take e.2.2.2.1).reverse M) (fun r M => f (pc + 3) L (r.toList ++ st.drop e.2.2.2.1) M) else none
  | kd => match (st.take e.2.2.2.1).reverse with
    | .ref k :: as => if am_at M k kd ∧ am_cats (st.drop e.2.2.2.1) ≤ 8 ∧ e.2.2.2.1 ≤ st.length then am_call (g e.2.2.1 (.ref k :: as) M) (fun r M => f (pc + 3) L (r.toList ++ st.drop e.2.2.2.1) M) else none
    | _ => none
/-- one instruction: e what stands there, rk what the method answers with (0 nothing, 1 an int, 2 a boolean, 3 a long), K the long constants, g what a call does, f what comes behind -/
def am_step (e : am_E) (rk : Nat) (K : Nat → Int64) (g : Nat → List Value → am_M → am_O) (f : Nat → List Value → List Value → am_M → am_O) (pc : Nat) (L st : List Value) (M : am_M) : am_O :=
  match e.1 with
  | .iconst n => f (pc + 1) L (.int (Int32.ofInt n) :: st) M
  | .bipush n => f (pc + 2) L (.int (Int8.ofInt n).toInt32 :: st) M
  | .sipush n => f (pc + 3) L (.int (Int16.ofInt n).toInt32 :: st) M
  | .lconst n => f (pc + 1) L (.long (Int64.ofNat n) :: st) M
  | .ldc2_w _ => f (pc + 3) L (.long (K e.2.2.1) :: st) M
  | .ldc _ => f (pc + 2) L (.ref (1000000 + e.2.2.1) :: st) M
  | .getstatic _ => f (pc + 3) L (.ref 2000000 :: st) M
  | .iload_n k => am_isI L[(k : Nat)]? fun x => f (pc + 1) L (.int x :: st) M
  | .iload k => am_isI L[k]? fun x => f (pc + 2) L (.int x :: st) M
  | .lload_n k => am_isL L[(k : Nat)]? fun x => f (pc + 1) L (.long x :: st) M
  | .lload k => am_isL L[k]? fun x => f (pc + 2) L (.long x :: st) M
  | .aload_n k => am_isR L[(k : Nat)]? fun x => f (pc + 1) L (.ref x :: st) M
  | .aload k => am_isR L[k]? fun x => f (pc + 2) L (.ref x :: st) M
  | .istore_n k => am_p1 st fun x r => f (pc + 1) (am_set1 L k (.int x)) r M
  | .istore k => am_p1 st fun x r => f (pc + 2) (am_set1 L k (.int x)) r M
  | .lstore_n k => am_p1L st fun x r => f (pc + 1) (am_set2 L k (.long x)) r M
  | .lstore k => am_p1L st fun x r => f (pc + 2) (am_set2 L k (.long x)) r M
  | .astore_n k => am_pR st fun x r => f (pc + 1) (am_set1 L k (.ref x)) r M
  | .astore k => am_pR st fun x r => f (pc + 2) (am_set1 L k (.ref x)) r M
  | .iinc k n => am_isI L[k]? fun x => f (pc + 3) (am_set1 L k (.int (x + Int32.ofInt n))) st M
  | .iadd => am_p2 st fun x y r => f (pc + 1) L (.int (x + y) :: r) M
  | .isub => am_p2 st fun x y r => f (pc + 1) L (.int (x - y) :: r) M
  | .imul => am_p2 st fun x y r => f (pc + 1) L (.int (x * y) :: r) M
  | .iand => am_p2 st fun x y r => f (pc + 1) L (.int (x &&& y) :: r) M
  | .ior => am_p2 st fun x y r => f (pc + 1) L (.int (x ||| y) :: r) M
  | .ixor => am_p2 st fun x y r => f (pc + 1) L (.int (x ^^^ y) :: r) M
  | .ishl => am_p2 st fun x y r => f (pc + 1) L (.int (x <<< (y &&& 31)) :: r) M
  | .ishr => am_p2 st fun x y r => f (pc + 1) L (.int (x >>> (y &&& 31)) :: r) M
  | .iushr => am_p2 st fun x y r => f (pc + 1) L (.int (x.toUInt32 >>> (y.toUInt32 &&& Int32.toUInt32 31)).toInt32 :: r) M
  | .idiv => am_p2 st fun x y r => if y = 0 then none else f (pc + 1) L (.int (x / y) :: r) M
  | .irem => am_p2 st fun x y r => if y = 0 then none else f (pc + 1) L (.int (x - x / y * y) :: r) M
  | .ineg => am_p1 st fun x r => f (pc + 1) L (.int (-x) :: r) M
  | .ladd => am_p2L st fun x y r => f (pc + 1) L (.long (x + y) :: r) M
  | .lsub => am_p2L st fun x y r => f (pc + 1) L (.long (x - y) :: r) M
  | .lmul => am_p2L st fun x y r => f (pc + 1) L (.long (x * y) :: r) M
  | .land => am_p2L st fun x y r => f (pc + 1) L (.long (x &&& y) :: r) M
  | .lor => am_p2L st fun x y r => f (pc + 1) L (.long (x ||| y) :: r) M
  | .ldiv => am_p2L st fun x y r => if y = 0 then none else f (pc + 1) L (.long (x / y) :: r) M
  | .lrem => am_p2L st fun x y r => if y = 0 then none else f (pc + 1) L (.long (x - x / y * y) :: r) M
  | .lshl => am_p1 st fun y r => am_p1L r fun x r => f (pc + 1) L (.long (x <<< (y.toInt64 &&& 63)) :: r) M
  | .lushr => am_p1 st fun y r => am_p1L r fun x r => f (pc + 1) L (.long (x.toUInt64 >>> (y.toInt64.toUInt64 &&& Int64.toUInt64 63)).toInt64 :: r) M
  | .lcmp => am_p2L st fun x y r => f (pc + 1) L (.int (lg_cmp x y) :: r) M
  | .i2l => am_p1 st fun x r => f (pc + 1) L (.long x.toInt64 :: r) M
  | .l2i => am_p1L st fun x r => f (pc + 1) L (.int x.toInt32 :: r) M
  | .i2c => am_p1 st fun x r => f (pc + 1) L (.int (x.toUInt32 % 65536).toInt32 :: r) M
  | .dup => match st with
    | v :: r => if v.category = 1 then f (pc + 1) L (v :: v :: r) M else none
    | _ => none
  | .dup2 => match st with
    | v :: w :: r => if v.category = 1 ∧ w.category = 1 then f (pc + 1) L (v :: w :: v :: w :: r) M else none
    | _ => none
  | .dup_x1 => match st with
    | v :: w :: r => if v.category = 1 ∧ w.category = 1 then f (pc + 1) L (v :: w :: v :: r) M else none
    | _ => none
  | .pop => match st with
    | v :: r => if v.category = 1 then f (pc + 1) L r M else none
    | _ => none
  | .ifCond c _ => am_p1 st fun x r => am_cnd c x 0 (f e.2.2.1 L r M) (f (pc + 3) L r M)
  | .if_icmp c _ => am_p2 st fun x y r => am_cnd c x y (f e.2.2.1 L r M) (f (pc + 3) L r M)
  | .goto _ => f e.2.2.1 L st M
  | .tableswitch d lo _ offs => am_p1 st fun x r => am_sw x (fun t => f t L r M) ((pc : Int) + d).toNat (am_keys pc lo offs.toList)
  | .lookupswitch d ps => am_p1 st fun x r => am_sw x (fun t => f t L r M) ((pc : Int) + d).toNat (am_pairs pc ps.toList)
  | .getfield _ => am_pR st fun k r => if am_at M k e.2.2.1 then f (pc + 3) L (am_gf M k e.2.2.2.1 e.2.2.2.2 :: r) M else none
  | .putfield _ => am_pVR st fun v k r => if am_at M k e.2.2.1 then am_pf M k e.2.2.2.1 e.2.2.2.2 v (fun M => f (pc + 3) L r M) else none
  | .iaload => am_pIR st fun i k r => if am_at M k 20 then (if am_in i (M.2.2.2.1 k).2 then f (pc + 1) L (.int (M.1 k i.toNatClampNeg) :: r) M else none) else if k = 2000000 ∧ am_in i 9 then f (pc + 1) L (.int (am_ro i.toNatClampNeg) :: r) M else none
  | .laload => am_pIR st fun i k r => if am_at M k 21 then (if am_in i (M.2.2.2.1 k).2 then f (pc + 1) L (.long (M.2.1 k i.toNatClampNeg) :: r) M else none) else none
  | .baload => am_pIR st fun i k r => if am_at M k 22 then (if am_in i (M.2.2.2.1 k).2 then f (pc + 1) L (.int (M.1 k i.toNatClampNeg) :: r) M else none) else none
  | .aaload => am_pIR st fun i k r => if am_at M k e.2.2.1 then (if am_in i (M.2.2.2.1 k).2 then f (pc + 1) L (va_rf (M.2.2.1 k i.toNatClampNeg) :: r) M else none) else none
  | .iastore => am_pVIR st fun v i k r => am_isI (some v) fun x => if am_at M k 20 then (if am_in i (M.2.2.2.1 k).2 then f (pc + 1) L r (am_sI M k i.toNatClampNeg x) else none) else none
  | .lastore => am_pVIR st fun v i k r => am_isL (some v) fun x => if am_at M k 21 then (if am_in i (M.2.2.2.1 k).2 then f (pc + 1) L r (am_sL M k i.toNatClampNeg x) else none) else none
  | .bastore => am_pVIR st fun v i k r => am_isI (some v) fun x => if am_at M k 22 then (if am_in i (M.2.2.2.1 k).2 ∧ (x = 0 ∨ x = 1) then f (pc + 1) L r (am_sI M k i.toNatClampNeg x) else none) else none
  | .aastore => am_pVIR st fun v i k r => am_isR (some v) fun x => if am_at M k e.2.2.1 ∧ am_at M x e.2.2.2.1 then (if am_in i (M.2.2.2.1 k).2 then f (pc + 1) L r (am_sR M k i.toNatClampNeg (some x)) else none) else none
  | .arraylength => am_pR st fun k r => if 20 ≤ (M.2.2.2.1 k).1 ∧ (M.2.2.2.1 k).1 < 28 ∧ k < M.2.2.2.2.1 then f (pc + 1) L (.int (Int32.ofNat (M.2.2.2.1 k).2) :: r) M else none
  | .new _ => f (pc + 3) L (.ref M.2.2.2.2.1 :: st) (am_al M e.2.2.1 e.2.2.2.1)
  | .newarray _ => am_p1 st fun n r => if n < 0 ∨ 100000 < n then none else f (pc + 2) L (.ref M.2.2.2.2.1 :: r) (am_al M e.2.2.1 n.toNatClampNeg)
  | .anewarray _ => am_p1 st fun n r => if n < 0 ∨ 100000 < n then none else f (pc + 3) L (.ref M.2.2.2.2.1 :: r) (am_al M e.2.2.1 n.toNatClampNeg)
  | .multianewarray _ _ => am_p2 st fun n m r => if n < 0 ∨ 1000 < n ∨ m < 0 ∨ 1000 < m then none else f (pc + 4) L (.ref M.2.2.2.2.1 :: r) (am_al2 M n.toNatClampNeg m.toNatClampNeg)
  | .invokevirtual _ => am_inv e g f pc L st M
  | .invokestatic _ => am_inv e g f pc L st M
  | .invokespecial _ => am_inv e g f pc L st M
  | .ireturn => match st with
    | [.int x] => if rk = 1 ∨ (rk = 2 ∧ (x = 0 ∨ x = 1)) then some (some (.int x), M) else none
    | _ => none
  | .lreturn => match st with
    | [.long x] => if rk = 3 then some (some (.long x), M) else none
    | _ => none
  | .return_ => match st with
    | [] => if rk = 0 then some (none, M) else none
    | _ => none
  | _ => none
