/-! EVERY INSTRUCTION IS WHAT THE TABLE SAYS. -/
def am_len : Instr → Nat
  | .bipush _ => 2
  | .sipush _ => 3
  | .ldc2_w _ => 3
  | .ldc _ => 2
  | .getstatic _ => 3
  | .iload _ => 2
  | .lload _ => 2
  | .aload _ => 2
  | .istore _ => 2
  | .lstore _ => 2
  | .astore _ => 2
  | .iinc _ _ => 3
  | .ifCond _ _ => 3
  | .if_icmp _ _ => 3
  | .goto _ => 3
  | .getfield _ => 3
  | .putfield _ => 3
  | .new _ => 3
  | .newarray _ => 2
  | .anewarray _ => 3
  | .multianewarray _ _ => 4
  | .invokevirtual _ => 3
  | .invokestatic _ => 3
  | .invokespecial _ => 3
  | _ => 1
def am_isSw : Instr → Bool
  | .tableswitch _ _ _ _ => true
  | .lookupswitch _ _ => true
  | _ => false
/-- the class of the places of an array of objects -/
def am_el (k : Nat) : Nat := match k with
  | 23 => 1
  | 24 => 4
  | 25 => 7
  | _ => 10
noncomputable def am_okI (mi pc : Nat) (e : am_E) : Bool := match e.1 with
  | .ldc idx => Nat.beq (am_own mi) 9 && ((Nat.beq idx 29 && Nat.beq e.2.2.1 0) || (Nat.beq idx 107 && Nat.beq e.2.2.1 1))
  | .ldc2_w idx => am_KLt.any fun q => Nat.beq q.1 (am_own mi) && Nat.beq q.2.1 idx && Nat.beq q.2.2.1 e.2.2.1
  | .getstatic idx => Nat.beq (am_own mi) 6 && Nat.beq idx 88
  | .istore_n k => Nat.blt k (am_ml mi)
  | .istore k => Nat.blt k (am_ml mi)
  | .astore_n k => Nat.blt k (am_ml mi)
  | .astore k => Nat.blt k (am_ml mi)
  | .lstore_n k => Nat.blt (k + 1) (am_ml mi)
  | .lstore k => Nat.blt (k + 1) (am_ml mi)
  | .iinc k _ => Nat.blt k (am_ml mi)
  | .ifCond _ off => decide ((pc : Int) + off = (e.2.2.1 : Int))
  | .if_icmp _ off => decide ((pc : Int) + off = (e.2.2.1 : Int))
  | .goto off => decide ((pc : Int) + off = (e.2.2.1 : Int))
  | .tableswitch d lo hi offs => decide (0 ≤ (pc : Int) + d) && (offs.toList.all fun o => decide (0 ≤ (pc : Int) + o)) && decide (lo + (offs.toList.length : Int) = hi + 1) && decide (-1000 ≤ lo) && decide (hi ≤ 1000)
  | .lookupswitch d ps => decide (0 ≤ (pc : Int) + d) && (ps.toList.all fun o => decide (0 ≤ (pc : Int) + o.2) && decide (-1000 ≤ o.1) && decide (o.1 ≤ 1000)) && (ps.toList.zip (ps.toList.drop 1)).all (fun (a, next) => a.1 < next.1)
  | .getfield idx => (am_FLt.any fun q => Nat.beq q.1 (am_own mi) && Nat.beq q.2.1 idx && Nat.beq q.2.2.1 e.2.2.1 && Nat.beq q.2.2.2.1 e.2.2.2.1) && Nat.beq (am_fk e.2.2.1 e.2.2.2.1) e.2.2.2.2 && Nat.blt e.2.2.1 13 && Nat.blt e.2.2.2.1 (am_nf e.2.2.1)
  | .putfield idx => (am_FLt.any fun q => Nat.beq q.1 (am_own mi) && Nat.beq q.2.1 idx && Nat.beq q.2.2.1 e.2.2.1 && Nat.beq q.2.2.2.1 e.2.2.2.1) && Nat.beq (am_fk e.2.2.1 e.2.2.2.1) e.2.2.2.2 && Nat.blt e.2.2.1 13 && Nat.blt e.2.2.2.1 (am_nf e.2.2.1) && (!(am_ct e.2.2.1 e.2.2.2.1).2.2.2 || (Nat.beq (am_sk mi) 1 && Nat.beq (am_own mi) e.2.2.1))
  | .aaload => Nat.ble 23 e.2.2.1 && Nat.ble e.2.2.1 27
  | .aastore => Nat.ble 23 e.2.2.1 && Nat.ble e.2.2.1 26 && Nat.beq (am_el e.2.2.1) e.2.2.2.1
  | .new idx => (am_CLt.any fun q => Nat.beq q.1 (am_own mi) && Nat.beq q.2.1 idx && Nat.beq q.2.2.1 e.2.2.1) && Nat.beq e.2.2.2.1 (am_nf e.2.2.1) && Nat.blt e.2.2.1 13
  | .newarray t => (decide (t = .int) && Nat.beq e.2.2.1 20) || (decide (t = .long) && Nat.beq e.2.2.1 21) || (decide (t = .boolean) && Nat.beq e.2.2.1 22)
  | .anewarray idx => (am_CLt.any fun q => Nat.beq q.1 (am_own mi) && Nat.beq q.2.1 idx && Nat.beq q.2.2.1 (am_el e.2.2.1)) && Nat.ble 23 e.2.2.1 && Nat.ble e.2.2.1 26
  | .multianewarray idx n => Nat.beq (am_own mi) 6 && Nat.beq idx 15 && Nat.beq n 2
  | .invokevirtual idx => (Nat.beq e.2.2.2.2 60 && Nat.beq (am_own mi) 9 && Nat.beq idx 31) || (Nat.beq e.2.2.2.2 61 && Nat.beq (am_own mi) 9 && Nat.beq idx 109) || ((am_MLt.any fun q => Nat.beq q.1 (am_own mi) && Nat.beq q.2.1 idx && Nat.beq q.2.2.1 e.2.2.1) && Nat.beq e.2.2.2.1 (am_np e.2.2.1 + 1) && Nat.beq e.2.2.2.2 (am_own e.2.2.1) && Nat.beq (am_sk e.2.2.1) 2 && Nat.blt e.2.2.1 293)
  | .invokestatic idx => (Nat.beq e.2.2.2.2 50 && am_ACt.any fun q => Nat.beq q.1 (am_own mi) && Nat.beq q.2.1 idx) || ((am_MLt.any fun q => Nat.beq q.1 (am_own mi) && Nat.beq q.2.1 idx && Nat.beq q.2.2.1 e.2.2.1) && Nat.beq e.2.2.2.1 (am_np e.2.2.1) && Nat.beq e.2.2.2.2 40 && Nat.beq (am_sk e.2.2.1) 0 && Nat.blt e.2.2.1 293)
  | .invokespecial idx => (Nat.beq e.2.2.2.2 99 && am_OIt.any fun q => Nat.beq q.1 (am_own mi) && Nat.beq q.2.1 idx) || (((am_MLt.any fun q => Nat.beq q.1 (am_own mi) && Nat.beq q.2.1 idx && Nat.beq q.2.2.1 e.2.2.1) || (am_MNt.any fun q => Nat.beq q.1 (am_own mi) && Nat.beq q.2.1 idx && Nat.beq q.2.2.1 e.2.2.1)) && Nat.beq e.2.2.2.1 (am_np e.2.2.1 + 1) && Nat.beq e.2.2.2.2 (am_own e.2.2.1) && Nat.beq (am_sk e.2.2.1) 1 && Nat.blt e.2.2.1 293)
  | _ => true
noncomputable def am_okc (code : ByteArray) (mi pc : Nat) (e : am_E) : Bool := Nat.beq e.2.1 0 || (decide (decode code pc = .ok (e.1, e.2.1)) && (am_isSw e.1 || Nat.beq e.2.1 (am_len e.1)) && am_okI mi pc e)
