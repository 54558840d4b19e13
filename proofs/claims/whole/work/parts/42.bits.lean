/-! bits; stock, count, trace, others -/
theorem bt_shl : ∀ b, b < 32 → ((1 : Int32) <<< (nI b &&& 31)).toBitVec = BitVec.twoPow 32 b := by decide +kernel
theorem bt_sm : ∀ b, b < 32 → ((nI b &&& 31).toBitVec.smod 32).toNat = b := by decide +kernel
def bt (v : Int32) (b : Nat) : Bool := v.toBitVec.getLsbD b
theorem bt_tp (b : Nat) (h : b < 32) : BitVec.twoPow 32 b ≠ 0#32 := by
  intro q
  have := congrArg (fun z => BitVec.getLsbD z b) q
  simp at this
  omega
theorem bt_and (v : Int32) (b : Nat) (h : b < 32) : (v &&& ((1 : Int32) <<< (nI b &&& 31))) = 0 ↔ bt v b = false := by
  have e : (v &&& ((1 : Int32) <<< (nI b &&& 31))).toBitVec = v.toBitVec &&& BitVec.twoPow 32 b := by
    rw [← bt_shl b h]; rfl
  have e0 : (0 : Int32).toBitVec = 0#32 := rfl
  rw [← Int32.toBitVec_inj, e, e0, BitVec.and_twoPow]
  unfold bt
  cases q : v.toBitVec.getLsbD b with
  | false => simp
  | true => simp [bt_tp b h]
theorem bt_sr (v : Int32) (b : Nat) (h : b < 32) : ((v >>> (nI b &&& 31)) &&& 1).toBitVec = if bt v b = true then 1#32 else 0#32 := by
  have e : ((v >>> (nI b &&& 31)) &&& 1).toBitVec = v.toBitVec.sshiftRight ((nI b &&& 31).toBitVec.smod 32).toNat &&& 1#32 := rfl
  rw [e, bt_sm b h, ← BitVec.twoPow_zero, BitVec.and_twoPow, BitVec.getLsbD_sshiftRight]
  unfold bt
  simp [h]
theorem bt_s0 (v : Int32) (b : Nat) (h : b < 32) : ((v >>> (nI b &&& 31)) &&& 1) = 0 ↔ bt v b = false := by
  have e0 : (0 : Int32).toBitVec = 0#32 := rfl
  rw [← Int32.toBitVec_inj, bt_sr v b h, e0]
  cases bt v b <;> simp
theorem bt_s1 (v : Int32) (b : Nat) (h : b < 32) : ((v >>> (nI b &&& 31)) &&& 1) = 1 ↔ bt v b = true := by
  have e0 : (1 : Int32).toBitVec = 1#32 := rfl
  rw [← Int32.toBitVec_inj, bt_sr v b h, e0]
  cases bt v b <;> simp
theorem nI_div {a b : Nat} (ha : a < 2 ^ 31) (hb : 0 < b) (hb2 : b < 2 ^ 31) : nI a / nI b = nI (a / b) := by
  rw [i_eq, Int32.toInt_div_of_ne_right _ _ (nI_ne hb2), nI_toInt ha, nI_toInt hb2, nI_toInt (Nat.lt_of_le_of_lt (Nat.div_le_self a b) ha)]
  exact (Int.ofNat_tdiv a b).symm
section API7
variable {x : Bool} {C M : tI} {J Jc : tJ}
/-- the stock of a part in the first n lots -/
def stF (M : tI) (x : Bool) (p : Int32) (l : Nat) (a : Int32) : Int32 := a + (if M 51 l = p ∧ fitP M x (Int32.toNatClampNeg (M 52 l)) then M 53 l else 0)
def stS (M : tI) (x : Bool) (p : Int32) (n : Nat) : Int32 := lp (stF M x p) n 0
theorem Rl.stkC (h : Rl x C M J) (p : Int32) (d : Nat) : am_G (am_ev (d + 2)) 18 [.ref 41, .int p] (C, Jc, (tc_R x), tc_S, 289, 11479) = some (some (.int (stS M x p (Int32.toNatClampNeg (M 0 70)))), (C, Jc, (tc_R x), tc_S, 289, 11479)) := by
  have nl := h.nlB.cl (by omega)
  have el := h.nlB.eq (by omega)
  have run := lp_run (fun (a : Int32) l => am_ev (d + 2) 18 4 [.ref 41, .int p, .int a, .int (nI l)] [] (C, Jc, (tc_R x), tc_S, 289, 11479)) (Int32.toNatClampNeg (M 0 70)) (stF M x p) (by
    intro a l hl
    try dsimp only
    have g := h.H.2.2.1 l hl
    have i40 : am_in (nI l) 40 := nI_in (by omega) (by omega)
    have hk := tl_k (k := l) (by omega)
    have eb := g.2.2.2.2.2.1.eq (by omega)
    have hb := g.2.2.2.2.2.2.1
    unfold stF
    (rw [b18_4, h.nl, el, if_neg (nI_ge hl (by omega)), if_pos i40]; (try simp (disch := omega) only [nI_clamp]); rw [if_pos hk, g.1, nI_1])
    by_cases q : M 51 l = p
    · (rw [if_pos q, if_pos i40, if_pos hk, g.2.1, h.fitCv eb hb, am_call_s, am_toL, b18_38, am_bif, if_pos i40]; (try simp (disch := omega) only [nI_clamp]); rw [if_pos hk, g.2.2.1, nI_1])
      by_cases f : fitP M x (Int32.toNatClampNeg (M 52 l))
      · rw [if_pos f, if_pos ⟨q, f⟩]
      · rw [if_neg f, if_neg (fun w => f w.2), Int32.add_zero]
    · rw [if_neg q, if_neg (fun w => q w.1), Int32.add_zero]) 0
  try dsimp only at run
  rw [b18_0]
  refine run.trans ?_
  rw [b18_4, h.nl, if_pos (by rw [← el]; exact Int32.le_refl _)]
  rfl
theorem Rl.stkM (h : Rl x C M J) (p : Int32) (d : Nat) : am_G (am_ev (d + 3)) 235 [.ref 0, .int p] (M, J, tm_R, tm_S, 77, 21637) = some (some (.int (stS M x p (Int32.toNatClampNeg (M 0 70)))), (M, J, tm_R, tm_S, 77, 21637)) := by
  have nl := h.nlB.cl (by omega)
  have el := h.nlB.eq (by omega)
  have run := lp_run (fun (a : Int32) l => am_ev (d + 3) 235 4 [.ref 0, .int p, .int a, .int (nI l)] [] (M, J, tm_R, tm_S, 77, 21637)) (Int32.toNatClampNeg (M 0 70)) (stF M x p) (by
    intro a l hl
    try dsimp only
    have g := h.H.2.2.1 l hl
    have i40 : am_in (nI l) 40 := nI_in (by omega) (by omega)
    have eb := g.2.2.2.2.2.1.eq (by omega)
    have hb := g.2.2.2.2.2.2.1
    unfold stF
    (rw [b235_4, el, if_neg (nI_ge hl (by omega)), if_pos i40]; (try simp (disch := omega) only [nI_clamp]); rw [nI_1])
    by_cases q : M 51 l = p
    · (rw [if_pos q, if_pos i40, h.fitMv eb hb, am_call_s, am_toL, b235_33, am_bif, if_pos i40]; (try simp (disch := omega) only [nI_clamp]); rw [nI_1])
      by_cases f : fitP M x (Int32.toNatClampNeg (M 52 l))
      · rw [if_pos f, if_pos ⟨q, f⟩]
      · rw [if_neg f, if_neg (fun w => f w.2)]
    · rw [if_neg q, if_neg (fun w => q w.1)]) 0
  try dsimp only at run
  rw [b235_0]
  refine run.trans ?_
  rw [b235_4, if_pos (by rw [← el]; exact Int32.le_refl _)]
  rfl
theorem k_stock (h : Rl x C M J) (a : Int32) : Lk 132 252 [.int a] x C M Jc J := by
  rcases h.kind (Jc := Jc) (q := 1) (by omega) a 98 97 with ⟨e1, e2⟩ | ⟨s, hs, rfl, hs6, e1, e2⟩
  · exact ⟨-1, x, C, M, J, by rw [b132_0, (show (1 : Int32) = nI 1 from rfl), e1, am_call_s, am_toL, b132_12, if_pos rfl]; rfl, by rw [b252_0, (show (1 : Int32) = nI 1 from rfl), e2, am_call_s, am_toL, b252_6, if_pos rfl]; rfl, h⟩
  · exact ⟨stS M x (nI s) (Int32.toNatClampNeg (M 0 70)), x, C, M, J, by rw [b132_0, (show (1 : Int32) = nI 1 from rfl), e1, am_call_s, am_toL, b132_12, if_neg (by decide : ¬ (1 : Int32) = 0), h.stkC, am_call_s, am_toL, b132_23], by rw [b252_0, (show (1 : Int32) = nI 1 from rfl), e2, am_call_s, am_toL, b252_6, if_neg (by decide : ¬ (1 : Int32) = 0), h.stkM, am_call_s, am_toL, b252_14], h⟩
/-- how many tyres of a size are of a state -/
def ctF (M : tI) (s w : Int32) (t : Nat) (a : Int32) : Int32 := a + (if M 54 t = s ∧ M 55 t = w then 1 else 0)
def ctS (M : tI) (s w : Int32) (n : Nat) : Int32 := lp (ctF M s w) n 0
theorem Rl.ctC (h : Rl x C M J) (s w : Int32) (d : Nat) : am_G (am_ev (d + 1)) 20 [.ref 41, .int s, .int w] (C, Jc, (tc_R x), tc_S, 289, 11479) = some (some (.int (ctS M s w (Int32.toNatClampNeg (M 0 74)))), (C, Jc, (tc_R x), tc_S, 289, 11479)) := by
  have nt := h.ntB.cl (by omega)
  have et := h.ntB.eq (by omega)
  have run := lp_run (fun (a : Int32) l => am_ev (d + 1) 20 5 [.ref 41, .int s, .int w, .int a, .int (nI l)] [] (C, Jc, (tc_R x), tc_S, 289, 11479)) (Int32.toNatClampNeg (M 0 74)) (ctF M s w) (by
    intro a l hl
    try dsimp only
    have g := h.H.2.2.2.1 l hl
    have i60 : am_in (nI l) 60 := nI_in (by omega) (by omega)
    unfold ctF
    (rw [b20_5, h.nt, et, if_neg (nI_ge hl (by omega)), if_pos i60]; (try simp (disch := omega) only [nI_clamp]); rw [if_pos (tt_k (by omega)), g.1, nI_1, if_pos i60, g.2.1])
    by_cases q : M 54 l = s
    · rw [if_pos q]
      by_cases f : M 55 l = w
      · rw [if_pos f, if_pos ⟨q, f⟩]
      · rw [if_neg f, if_neg (fun w => f w.2), Int32.add_zero]
    · rw [if_neg q, if_neg (fun w => q w.1), Int32.add_zero]) 0
  try dsimp only at run
  rw [b20_0]
  refine run.trans ?_
  rw [b20_5, h.nt, if_pos (by rw [← et]; exact Int32.le_refl _)]
  rfl
theorem k_count (h : Rl x C M J) (a w : Int32) : Lk 133 253 [.int a, .int w] x C M Jc J := by
  have nt := h.ntB.cl (by omega)
  have et := h.ntB.eq (by omega)
  rcases h.kind (Jc := Jc) (q := 2) (by omega) a 98 97 with ⟨e1, e2⟩ | ⟨s, hs, rfl, hs6, e1, e2⟩
  · exact ⟨-1, x, C, M, J, by rw [b133_0, (show (2 : Int32) = nI 2 from rfl), e1, am_call_s, am_toL, b133_12, if_pos rfl], by rw [b253_0, (show (2 : Int32) = nI 2 from rfl), e2, am_call_s, am_toL, b253_6, if_pos rfl], h⟩
  · have f1 := Eq.refl (am_G (am_ev 100) 133 [.ref 0, .int (nI s), .int w] (C, Jc, (tc_R x), tc_S, 289, 11479))
    conv at f1 => rhs; rw [b133_0, (show (2 : Int32) = nI 2 from rfl), e1, am_call_s, am_toL, b133_12, if_neg (by decide : ¬ (1 : Int32) = 0)]
    have f2 := Eq.refl (am_G (am_ev 100) 253 [.ref 0, .int (nI s), .int w] (M, J, tm_R, tm_S, 77, 21637))
    conv at f2 => rhs; rw [b253_0, (show (2 : Int32) = nI 2 from rfl), e2, am_call_s, am_toL, b253_6, if_neg (by decide : ¬ (1 : Int32) = 0)]
    by_cases hw : 0 ≤ w ∧ w ≤ 3
    · refine ⟨ctS M (nI s) w (Int32.toNatClampNeg (M 0 74)), x, C, M, J, by rw [f1, if_neg (Int32.not_lt.mpr hw.1), if_pos hw.2, h.ctC, am_call_s, am_toL, b133_35], ?_, h⟩
      have run := lp_run (fun (a : Int32) l => am_ev 100 253 25 [.ref 0, .int (nI s), .int w, .int a, .int (nI l)] [] (M, J, tm_R, tm_S, 77, 21637)) (Int32.toNatClampNeg (M 0 74)) (ctF M (nI s) w) (by
        intro a l hl
        try dsimp only
        have i60 : am_in (nI l) 60 := nI_in (by omega) (by omega)
        unfold ctF
        (rw [b253_25, et, if_neg (nI_ge hl (by omega)), if_pos i60]; (try simp (disch := omega) only [nI_clamp]); rw [nI_1, if_pos i60])
        by_cases q : M 54 l = nI s
        · rw [if_pos q]
          by_cases f : M 55 l = w
          · rw [if_pos f, if_pos ⟨q, f⟩]
          · rw [if_neg f, if_neg (fun w => f w.2)]
        · rw [if_neg q, if_neg (fun w => q w.1)]) 0
      try dsimp only at run
      rw [f2, m_is1 _ _ _ hw, am_call_s, am_toL, b253_15, if_neg (by decide : ¬ (1 : Int32) = 0)]
      refine run.trans ?_
      rw [b253_25, if_pos (by rw [← et]; exact Int32.le_refl _)]
      rfl
    · refine ⟨-1, x, C, M, J, ?_, by rw [f2, m_is0 _ _ _ hw, am_call_s, am_toL, b253_15, if_pos rfl], h⟩
      rw [f1]
      by_cases w1 : w < 0
      · rw [if_pos w1]
      · rw [if_neg w1, if_neg (fun q => hw ⟨Int32.not_lt.mp w1, q⟩)]
theorem Rl.hbt (h : Rl x C M J) {t b : Nat} (ht : t < Int32.toNatClampNeg (M 0 74)) (hb : b < 32) (d : Nat) : am_G (am_ev (d + 1)) 106 [.ref (150 + 2 * t), .int (nI b)] (C, Jc, (tc_R x), tc_S, 289, 11479) = some (some (.int (am_b (bt (M 57 t) b = true))), (C, Jc, (tc_R x), tc_S, 289, 11479)) := by
  have nt := h.ntB.cl (by omega)
  have g := h.H.2.2.2.1 t ht
  rw [b106_0, if_pos (tt_k (by omega)), g.2.2.2.1]
  by_cases q : bt (M 57 t) b = true
  · rw [am_b1 q, if_neg (fun w => by rw [bt_and _ _ hb] at w; rw [w] at q; cases q)]
  · rw [am_b0 q, if_pos (by rw [bt_and _ _ hb]; exact Bool.eq_false_iff.mpr q)]
/-- the bits of tyres with a batch -/
def otF (M : tI) (b t : Nat) (a : Int32) : Int32 := a ||| (if bt (M 57 t) b = true then M 57 t else 0)
theorem k_others (h : Rl x C M J) (a : Int32) : Lk 136 256 [.int a] x C M Jc J := by
  have nt := h.ntB.cl (by omega)
  have et := h.ntB.eq (by omega)
  rcases h.ba (Jc := Jc) a 98 97 with ⟨e1, e2⟩ | ⟨b, hb, rfl, hb24, e1, e2⟩
  · exact ⟨-1, x, C, M, J, by rw [b136_0, e1, am_call_s, am_toL, b136_8, if_pos rfl], by rw [b256_0, e2, am_call_s, am_toL, b256_5, if_pos rfl], h⟩
  · refine ⟨lp (otF M b) (Int32.toNatClampNeg (M 0 74)) 0 &&& (((1 : Int32) <<< (nI b &&& 31)) ^^^ ((-1) : Int32)), x, C, M, J, ?_, ?_, h⟩
    · have run := lp_run (fun (a : Int32) l => am_ev 100 136 17 [.ref 0, .int (nI b), .int a, .int (nI l)] [] (C, Jc, (tc_R x), tc_S, 289, 11479)) (Int32.toNatClampNeg (M 0 74)) (otF M b) (by
        intro a l hl
        try dsimp only
        have g := h.H.2.2.2.1 l hl
        have i60 : am_in (nI l) 60 := nI_in (by omega) (by omega)
        have hk := tt_k (k := l) (by omega)
        unfold otF
        (rw [b136_17, h.nt, et, if_neg (nI_ge hl (by omega)), if_pos i60]; (try simp (disch := omega) only [nI_clamp]); rw [if_pos ⟨hk, by decide, by omega⟩, h.hbt hl (by omega), am_call_s, am_toL, b136_41, am_bif, if_pos i60]; (try simp (disch := omega) only [nI_clamp]); rw [if_pos hk, g.2.2.2.1, nI_1])
        by_cases q : bt (M 57 l) b = true
        · rw [if_pos q, if_pos q]
        · rw [if_neg q, if_neg q, Int32.or_zero]) 0
      try dsimp only at run
      rw [b136_0, e1, am_call_s, am_toL, b136_8, if_neg (by decide : ¬ (1 : Int32) = 0)]
      refine run.trans ?_
      rw [b136_17, h.nt, if_pos (by rw [← et]; exact Int32.le_refl _)]
    · have run := lp_run (fun (a : Int32) l => am_ev 100 256 14 [.ref 0, .int (nI b), .int a, .int (nI l)] [] (M, J, tm_R, tm_S, 77, 21637)) (Int32.toNatClampNeg (M 0 74)) (otF M b) (by
        intro a l hl
        try dsimp only
        have i60 : am_in (nI l) 60 := nI_in (by omega) (by omega)
        unfold otF
        (rw [b256_14, et, if_neg (nI_ge hl (by omega)), if_pos i60]; (try simp (disch := omega) only [nI_clamp]); rw [if_pos i60, nI_1])
        by_cases q : bt (M 57 l) b = true
        · rw [if_pos q, if_pos ((bt_s1 _ _ (by omega)).mpr q)]
        · rw [if_neg q, if_neg (fun w => q ((bt_s1 _ _ (by omega)).mp w))]) 0
      try dsimp only at run
      rw [b256_0, e2, am_call_s, am_toL, b256_5, if_neg (by decide : ¬ (1 : Int32) = 0)]
      refine run.trans ?_
      rw [b256_14, if_pos (by rw [← et]; exact Int32.le_refl _)]
/-- the k-th tyre with a batch -/
def trR (M : tI) (b : Nat) (k : Int32) : Nat → Nat → Nat → Int32
  | 0, _, _ => -1
  | f + 1, t, c => if bt (M 57 t) b = true then (if nI c = k then nI t else trR M b k f (t + 1) (c + 1)) else trR M b k f (t + 1) c
theorem trR_neg (M : tI) (b : Nat) (k : Int32) (hk : k < 0) : ∀ f t c, c + f < 2 ^ 31 → trR M b k f t c = -1 := by
  intro f
  induction f with
  | zero => intro t c _; rfl
  | succ f ih =>
    intro t c hc
    unfold trR
    have ne : ¬ nI c = k := fun q => by rw [← q] at hk; exact nI_pos (by omega) hk
    rw [if_neg ne, ih (t + 1) (c + 1) (by omega), ih (t + 1) c (by omega)]
    split <;> rfl
theorem k_trace (h : Rl x C M J) (a k : Int32) : Lk 135 255 [.int a, .int k] x C M Jc J := by
  have nt := h.ntB.cl (by omega)
  have et := h.ntB.eq (by omega)
  rcases h.ba (Jc := Jc) a 98 97 with ⟨e1, e2⟩ | ⟨b, hb, rfl, hb24, e1, e2⟩
  · exact ⟨-1, x, C, M, J, by rw [b135_0, e1, am_call_s, am_toL, b135_8, if_pos rfl], by rw [b255_0, e2, am_call_s, am_toL, b255_5, if_pos rfl], h⟩
  · refine ⟨trR M b k (Int32.toNatClampNeg (M 0 74)) 0 0, x, C, M, J, ?_, ?_, h⟩
    · rw [b135_0, e1, am_call_s, am_toL, b135_8, if_neg (by decide : ¬ (1 : Int32) = 0)]
      by_cases hk : 0 ≤ k
      · rw [if_pos hk]
        have run : ∀ f t c, t + f = Int32.toNatClampNeg (M 0 74) → am_ev 100 135 22 [.ref 0, .int (nI b), .int k, .int (nI c), .int (nI t)] [] (C, Jc, (tc_R x), tc_S, 289, 11479) = some (some (.int (trR M b k f t c)), (C, Jc, (tc_R x), tc_S, 289, 11479)) := by
          intro f
          induction f with
          | zero =>
            intro t c ht
            rw [b135_22, h.nt, et, if_pos (nI_le (by omega) (by omega))]; rfl
          | succ f ih =>
            intro t c ht
            have i60 : am_in (nI t) 60 := nI_in (by omega) (by omega)
            have hk := tt_k (k := t) (by omega)
            unfold trR
            (rw [b135_22, h.nt, et, if_neg (nI_ge (by omega) (by omega)), if_pos i60]; (try simp (disch := omega) only [nI_clamp]); rw [if_pos ⟨hk, by decide, by omega⟩, h.hbt (by omega) (by omega), am_call_s, am_toL, b135_48, am_bif, nI_1, nI_1])
            by_cases q : bt (M 57 t) b = true
            · rw [if_pos q, if_pos q]
              by_cases q2 : nI c = k
              · rw [if_pos q2, if_pos q2]
              · rw [if_neg q2, if_neg q2, ih (t + 1) (c + 1) (by omega)]
            · rw [if_neg q, if_neg q, ih (t + 1) c (by omega)]
        exact run _ 0 0 (by omega)
      · rw [if_neg hk, trR_neg M b k (Int32.not_le.mp hk) _ 0 0 (by omega)]
    · rw [b255_0, e2, am_call_s, am_toL, b255_5, if_neg (by decide : ¬ (1 : Int32) = 0)]
      have run : ∀ f t c, t + f = Int32.toNatClampNeg (M 0 74) → am_ev 100 255 15 [.ref 0, .int (nI b), .int k, .int (nI c), .int (nI t)] [] (M, J, tm_R, tm_S, 77, 21637) = some (some (.int (trR M b k f t c)), (M, J, tm_R, tm_S, 77, 21637)) := by
        intro f
        induction f with
        | zero =>
          intro t c ht
          rw [b255_15, et, if_pos (nI_le (by omega) (by omega))]; rfl
        | succ f ih =>
          intro t c ht
          have i60 : am_in (nI t) 60 := nI_in (by omega) (by omega)
          unfold trR
          (rw [b255_15, et, if_neg (nI_ge (by omega) (by omega)), if_pos i60]; (try simp (disch := omega) only [nI_clamp]); rw [nI_1, nI_1])
          by_cases q : bt (M 57 t) b = true
          · rw [if_pos q, if_neg (fun w => by rw [bt_s0 _ _ (by omega)] at w; rw [w] at q; cases q)]
            by_cases q2 : nI c = k
            · rw [if_pos q2, if_pos q2]
            · rw [if_neg q2, if_neg q2, ih (t + 1) (c + 1) (by omega)]
          · rw [if_neg q, if_pos ((bt_s0 _ _ (by omega)).mpr (Bool.eq_false_iff.mpr q)), ih (t + 1) c (by omega)]
      exact run _ 0 0 (by omega)
end API7
