/-! small calls: fault, status, waste, octet, end, feed -/
theorem nin {v : Int32} {n : Nat} (hn : n < 2 ^ 31) (h : v < 0 ∨ nI n ≤ v) : ¬ (0 ≤ v ∧ v ≤ nI n - 1) := by
  intro q
  obtain ⟨k, hk, rfl⟩ := (is_in v hn).mp q
  rcases h with h | h
  · exact nI_pos (by omega) h
  · exact nI_ge hk hn h
theorem m_is1 (d : Nat) (I : tI) (J : tJ) {v a b : Int32} (h : a ≤ v ∧ v ≤ b) : am_G (am_ev (d + 1)) 157 [.int v, .int a, .int b] (I, J, tm_R, tm_S, 77, 21637) = some (some (.int 1), (I, J, tm_R, tm_S, 77, 21637)) := by rw [m_is, am_b1 h]
theorem m_is0 (d : Nat) (I : tI) (J : tJ) {v a b : Int32} (h : ¬ (a ≤ v ∧ v ≤ b)) : am_G (am_ev (d + 1)) 157 [.int v, .int a, .int b] (I, J, tm_R, tm_S, 77, 21637) = some (some (.int 0), (I, J, tm_R, tm_S, 77, 21637)) := by rw [m_is, am_b0 h]
theorem m_refuses (d : Nat) (I : tI) (J : tJ) (k : Nat) (h : k < 6) : am_G (am_ev (d + 1)) 203 [.ref 0, .int (nI k)] (I, J, tm_R, tm_S, 77, 21637) = some (some (.int (-1)), (am_u2 I 45 k (I 45 k + 1), J, tm_R, tm_S, 77, 21637)) := by
  (rw [b203_0, if_pos (nI_in h (by omega)), if_pos (nI_in h (by omega))]; (try simp (disch := omega) only [nI_clamp]))
theorem c_refuse (d : Nat) (I : tI) (J : tJ) (x : Bool) (k : Nat) (h : k < 6) : am_G (am_ev (d + 1)) 110 [.ref 0, .int (nI k)] (I, J, (tc_R x), tc_S, 289, 11479) = some (some (.int (-1)), (am_u2 I 288 k (I 288 k + 1), J, (tc_R x), tc_S, 289, 11479)) := by
  (rw [b110_0, if_pos (nI_in h (by omega)), if_pos (nI_in h (by omega))]; (try simp (disch := omega) only [nI_clamp]))
theorem mr0 (d : Nat) (I : tI) (J : tJ) : am_G (am_ev (d + 1)) 203 [.ref 0, .int 0] (I, J, tm_R, tm_S, 77, 21637) = some (some (.int (-1)), (am_u2 I 45 0 (I 45 0 + 1), J, tm_R, tm_S, 77, 21637)) := m_refuses d I J 0 (by omega)
theorem cr0 (d : Nat) (I : tI) (J : tJ) (x : Bool) : am_G (am_ev (d + 1)) 110 [.ref 0, .int 0] (I, J, (tc_R x), tc_S, 289, 11479) = some (some (.int (-1)), (am_u2 I 288 0 (I 288 0 + 1), J, (tc_R x), tc_S, 289, 11479)) := c_refuse d I J x 0 (by omega)
section API1
variable {x : Bool} {C M : tI} {J Jc : tJ}
theorem k_fault (h : Rl x C M J) (a : Int32) : Lk 113 202 [.int a] x C M Jc J := by
  obtain ⟨f1, f2⟩ := h.2.2.1
  by_cases h0 : a = 0
  · exact ⟨M 0 10, x, C, M, J, by rw [b113_0, if_pos h0, f1], by rw [b202_0, if_pos h0], h⟩
  · by_cases h1 : a = 1
    · exact ⟨M 0 11, x, C, M, J, by rw [b113_0, if_neg h0, if_pos h1, f2], by rw [b202_0, if_neg h0, if_pos h1], h⟩
    · exact ⟨-1, x, C, M, J, by rw [b113_0, if_neg h0, if_neg h1], by rw [b202_0, if_neg h0, if_neg h1], h⟩
theorem k_waste (h : Rl x C M J) : Lk 140 261 [] x C M Jc J := by
  have f1 : C 0 8 = M 0 91 := h.2.2.2.2.1
  exact ⟨M 0 91, x, C, M, J, by rw [b140_0, f1], by rw [b261_0], h⟩
theorem st5 : nI 6 - 1 = (5 : Int32) := by decide +kernel
theorem k_status (h : Rl x C M J) (a : Int32) : Lk 155 204 [.int a] x C M Jc J := by
  rcases i_cases a (n := 6) (by omega) with q | ⟨k, hk, rfl⟩
  · refine ⟨-1, x, C, M, J, ?_, ?_, h⟩
    · rw [b155_0, (show (6 : Int32) = nI 6 from rfl)]
      by_cases h0 : a < 0
      · rw [if_pos h0]
      · rw [if_neg h0, if_pos (q.resolve_left h0)]
    · rw [b204_0, m_is0 _ _ _ (st5 ▸ nin (n := 6) (by omega) q), am_call_s, am_toL, b204_6, if_pos rfl]
  · have hi : am_in (nI k) 6 := nI_in hk (by omega)
    refine ⟨M 45 k, x, C, M, J, ?_, ?_, h⟩
    · (rw [b155_0, (show (6 : Int32) = nI 6 from rfl), if_neg (nI_pos (by omega)), if_neg (nI_ge (b := 6) hk (by omega)), if_pos hi]; (try simp (disch := omega) only [nI_clamp]); rw [h.2.2.2.1 k hk])
    · (rw [b204_0, m_is1 _ _ _ (st5 ▸ (is_in (nI k) (n := 6) (by omega)).mpr ⟨k, hk, rfl⟩), am_call_s, am_toL, b204_6, if_neg (by decide : ¬ (1 : Int32) = 0), if_pos hi]; (try simp (disch := omega) only [nI_clamp]))
theorem k_octet (h : Rl x C M J) (a : Int32) : Lk 154 285 [.int a] x C M Jc J := by
  obtain ⟨o1, o2, o3⟩ := h.2.2.2.2.2.1
  have hl := o2.cl (by omega)
  have he := o2.eq (by omega)
  rcases i_cases a (n := Int32.toNatClampNeg (M 0 102)) (by omega) with q | ⟨k, hk, rfl⟩
  · rw [← he] at q
    refine ⟨-1, x, C, M, J, ?_, ?_, h⟩
    · rw [b154_0, o1]
      by_cases h0 : a < 0
      · rw [if_pos h0]
      · rw [if_neg h0, if_pos (q.resolve_left h0)]
    · rw [b285_0]
      by_cases h0 : a < 0
      · rw [if_pos h0]
      · rw [if_neg h0, if_pos (q.resolve_left h0)]
  · have hg : ¬ M 0 102 ≤ nI k := by rw [he]; exact nI_ge hk (by omega)
    refine ⟨M 76 k, x, C, M, J, ?_, ?_, h⟩
    · (rw [b154_0, if_neg (nI_pos (by omega)), o1, if_neg hg, if_pos (nI_in (by omega) (by omega))]; (try simp (disch := omega) only [nI_clamp]); rw [o3 k hk])
    · (rw [b285_0, if_neg (nI_pos (by omega)), if_neg hg, if_pos (nI_in (by omega) (by omega))]; (try simp (disch := omega) only [nI_clamp]))
/-- the relation with another tape -/
theorem Rl.tape (h : Rl x C M J) {C' M' : tI} (hT : rl_T C' M') (hC : ∀ a b, a ≠ 3 → (a = 1 → b ≠ 2) → C' a b = C a b) (hM : ∀ a b, a ≠ 1 → (a = 0 → b ≠ 1) → M' a b = M a b) : Rl x C' M' J := by
  have n74 := h.n74
  have hx := tc_P4 x
  obtain ⟨hB, _, hF, hN, hW, hO, hV, hOw, hP, hH⟩ := h
  refine ⟨?_, hT, ?_, ?_, ?_, ?_, ?_, ?_, ?_, ?_⟩
  · rw [hM 0 12 (by omega) (by omega)]; exact hB
  · exact hF.fr (fun b _ => hC 1 b (by omega) (by omega)) (fun b _ => hM 0 b (by omega) (by omega))
  · exact hN.fr (fun b => hC _ b (by omega) (by omega)) (fun b => hM _ b (by omega) (by omega))
  · exact hW.fr (hC _ _ (by omega) (by omega)) (hM _ _ (by omega) (by omega))
  · exact hO.fr (fun a b _ => hC _ b (by omega) (by omega)) (fun a b _ => hM _ b (by omega) (by omega))
  · exact hV.fr n74 (fun a b _ => hC _ b (by omega) (by omega)) (fun a b _ => hM _ b (by omega) (by omega))
  · exact hOw.fr (fun b => hC _ b (by omega) (by omega))
  · exact hP.fr (fun a b _ => hC _ b (by omega) (by omega)) (fun a b _ => hM _ b (by omega) (by omega)) (fun _ _ _ => rfl)
  · exact hH.fr (fun a b _ => hC _ b (by omega) (by omega)) (fun a b _ => hM _ b (by omega) (by omega))
theorem k_end (h : Rl x C M J) (a : Int32) : Lk 111 160 [.int a] x C M Jc J := by
  obtain ⟨t1, t2, t3⟩ := h.2.1
  have hl := t2.cl (by omega)
  have he := t2.eq (by omega)
  have bad : (a < 0 ∨ ¬ a ≤ M 0 1) → Lk 111 160 [.int a] x C M Jc J := by
    intro q
    refine ⟨0, x, _, _, J, ?_, ?_, h.ref 0 (by omega)⟩
    · rw [b111_0]
      by_cases h0 : a < 0
      · rw [if_pos h0, cr0, am_call_s, am_toL, b111_20]
      · rw [if_neg h0, t1, if_neg (q.resolve_left h0), cr0, am_call_s, am_toL, b111_20]
    · rw [b160_0]
      by_cases h0 : a < 0
      · rw [if_pos h0, mr0, am_call_s, am_toL, b160_17]; exact if_pos (by decide)
      · rw [if_neg h0, if_neg (q.resolve_left h0), mr0, am_call_s, am_toL, b160_17]; exact if_pos (by decide)
  by_cases h0 : a < 0
  · exact bad (Or.inl h0)
  · by_cases h1 : a ≤ M 0 1
    · refine ⟨1, x, am_u2 C 1 2 a, am_u2 M 0 1 a, J, ?_, ?_, ?_⟩
      · rw [b111_0, if_neg h0, t1, if_pos h1]
      · rw [b160_0, if_neg h0, if_pos h1]
      · refine h.tape ⟨?_, ?_, ?_⟩ (fun a b h1 h2 => ?_) (fun a b h1 h2 => ?_)
        · rw [u2_s, u2_s]
        · rw [u2_s]
          obtain ⟨j, hj, rfl⟩ := nI_of h0
          rw [he, nI_leI hj (by omega)] at h1
          exact bd_nI (by omega)
        · intro j hj
          rw [u2_c (by omega), u2_c (by omega)]; exact t3 j hj
        · by_cases e : a = 1
          · exact u2_p (h2 e)
          · exact u2_c e
        · by_cases e : a = 0
          · exact u2_p (h2 e)
          · exact u2_c e
    · exact bad (Or.inr h1)
end API1
/-! bytes of a number -/
theorem bv255 (i : Nat) : (255#32).getLsbD i = decide (i < 8) := by
  have e : (255#32).getLsbD i = Nat.testBit (2 ^ 8 - 1) i := rfl
  rw [e, Nat.testBit_two_pow_sub_one]
theorem bv_shr (x : BitVec 32) (n : Nat) (h : n ≤ 24) : x.sshiftRight n &&& 255#32 = (x >>> n) &&& 255#32 := by
  apply BitVec.eq_of_getLsbD_eq
  intro i hi
  rw [BitVec.getLsbD_and, BitVec.getLsbD_and, bv255]
  by_cases h8 : i < 8
  · rw [BitVec.getLsbD_sshiftRight, BitVec.getLsbD_ushiftRight]
    have e1 : n + i < 32 := by omega
    have e2 : ¬ 32 ≤ i := by omega
    simp [e1, e2]
  · simp [h8]
def byt (v : Int32) (k : Nat) : Int32 := (v >>> (nI (24 - 8 * k) &&& 31)) &&& 255
theorem byt_bd (w : Int32) : bd (w &&& 255) 255 := by
  have e : (w &&& 255).toBitVec.toNat ≤ 255 := by
    have : (w &&& 255).toBitVec = w.toBitVec &&& 255#32 := rfl
    rw [this, BitVec.toNat_and]
    exact Nat.and_le_right
  refine ⟨(w &&& 255).toBitVec.toNat, e, ?_⟩
  apply Int32.toBitVec_inj.mp
  apply BitVec.eq_of_toNat_eq
  have : (nI (w &&& 255).toBitVec.toNat).toBitVec = BitVec.ofNat 32 (w &&& 255).toBitVec.toNat := rfl
  rw [this, BitVec.toNat_ofNat]
  omega
theorem byt_u (v : Int32) (n : Nat) (h : n = 0 ∨ n = 8 ∨ n = 16 ∨ n = 24) : ((Int32.toUInt32 v) >>> ((Int32.toUInt32 (nI n)) &&& Int32.toUInt32 31)).toInt32 &&& 255 = (v >>> (nI n &&& 31)) &&& 255 := by
  apply Int32.toBitVec_inj.mp
  have e1 : (((Int32.toUInt32 v) >>> ((Int32.toUInt32 (nI n)) &&& Int32.toUInt32 31)).toInt32 &&& 255).toBitVec = (v.toBitVec >>> n) &&& 255#32 := by
    rcases h with rfl | rfl | rfl | rfl <;> rfl
  have e2 : ((v >>> (nI n &&& 31)) &&& 255).toBitVec = v.toBitVec.sshiftRight n &&& 255#32 := by
    rcases h with rfl | rfl | rfl | rfl <;> rfl
  rw [e1, e2, bv_shr _ _ (by omega)]
/-- a byte comes onto the tape -/
def w1m (M : tI) (n : Nat) (b : Int32) : tI := am_u2 (am_u2 M 1 n b) 0 1 (nI (n + 1))
def w1c (C : tI) (n : Nat) (b : Int32) : tI := am_u2 (am_u2 C 3 n b) 1 2 (nI (n + 1))
theorem w1m_n (M : tI) (n : Nat) (b : Int32) : w1m M n b 0 1 = nI (n + 1) := u2_s
theorem w1c_n (C : tI) (n : Nat) (b : Int32) : w1c C n b 1 2 = nI (n + 1) := u2_s
theorem w1m_f {M : tI} {n a b : Nat} {v : Int32} (h1 : a ≠ 1) (h2 : a = 0 → b ≠ 1) : w1m M n v a b = M a b := by
  unfold w1m
  by_cases e : a = 0
  · rw [u2_p (h2 e), u2_c h1]
  · rw [u2_c e, u2_c h1]
theorem w1c_f {C : tI} {n a b : Nat} {v : Int32} (h1 : a ≠ 3) (h2 : a = 1 → b ≠ 2) : w1c C n v a b = C a b := by
  unfold w1c
  by_cases e : a = 1
  · rw [u2_p (h2 e), u2_c h1]
  · rw [u2_c e, u2_c h1]
theorem rl_T.w1 {C M : tI} (h : rl_T C M) {n : Nat} (hn : n + 1 ≤ 1600) {b : Int32} (hb : bd b 255) : rl_T (w1c C n b) (w1m M n b) := by
  refine ⟨by rw [w1c_n, w1m_n], by rw [w1m_n]; exact bd_nI (by omega), fun j hj => ?_⟩
  have e1 : w1c C n b 3 j = am_u2 C 3 n b 3 j := u2_c (by omega)
  have e2 : w1m M n b 1 j = am_u2 M 1 n b 1 j := u2_c (by omega)
  rw [e1, e2]
  by_cases e : j = n
  · subst e; rw [u2_s, u2_s]; exact ⟨rfl, hb⟩
  · rw [u2_p e, u2_p e]; exact h.2.2 j hj
theorem m_put1 (d : Nat) (I : tI) (J : tJ) (v s : Int32) (n : Nat) (hn : I 0 1 = nI n) (h : n < 1600) (hs : ¬ s < 0) : am_ev (d + 1) 158 3 [.ref 0, .int v, .int s] [] (I, J, tm_R, tm_S, 77, 21637) = am_ev (d + 1) 158 3 [.ref 0, .int v, .int (s + Int32.ofInt (-8))] [] (w1m I n ((v >>> (s &&& 31)) &&& 255), J, tm_R, tm_S, 77, 21637) := by
  (rw [b158_3, if_neg hs, hn, if_pos (nI_in (by omega) (by omega)), b158_36]; (try simp (disch := omega) only [nI_clamp]); rw [nI_1]); rfl
theorem c_put1 (d : Nat) (I : tI) (J : tJ) (x : Bool) (v s : Int32) (n : Nat) (hn : I 1 2 = nI n) (h : n < 1600) (hs : ¬ s < 0) : am_ev (d + 1) 73 3 [.ref 1, .int v, .int s] [] (I, J, (tc_R x), tc_S, 289, 11479) = am_ev (d + 1) 73 3 [.ref 1, .int v, .int (s + Int32.ofInt (-8))] [] (w1c I n (((Int32.toUInt32 v) >>> ((Int32.toUInt32 s) &&& Int32.toUInt32 31)).toInt32 &&& 255), J, (tc_R x), tc_S, 289, 11479) := by
  (rw [b73_3, if_neg hs, hn, (show (1600 : Int32) = nI 1600 from rfl), if_neg (nI_ge (b := 1600) h (by omega)), if_pos (nI_in (by omega) (by omega)), b73_46]; (try simp (disch := omega) only [nI_clamp]); rw [nI_1]); rfl
def w4m (M : tI) (n : Nat) (v : Int32) : tI := w1m (w1m (w1m (w1m M n (byt v 0)) (n + 1) (byt v 1)) (n + 2) (byt v 2)) (n + 3) (byt v 3)
def w4c (C : tI) (n : Nat) (v : Int32) : tI := w1c (w1c (w1c (w1c C n (byt v 0)) (n + 1) (byt v 1)) (n + 2) (byt v 2)) (n + 3) (byt v 3)
theorem sh1 : (24 : Int32) + Int32.ofInt (-8) = nI 16 := by decide +kernel
theorem sh2 : (nI 16) + Int32.ofInt (-8) = nI 8 := by decide +kernel
theorem sh3 : (nI 8) + Int32.ofInt (-8) = nI 0 := by decide +kernel
theorem m_put (d : Nat) (I : tI) (J : tJ) (v : Int32) (n : Nat) (hn : I 0 1 = nI n) (h : n + 4 ≤ 1600) : am_G (am_ev (d + 1)) 158 [.ref 0, .int v] (I, J, tm_R, tm_S, 77, 21637) = some (none, (w4m I n v, J, tm_R, tm_S, 77, 21637)) := by
  rw [b158_0, m_put1 d I J v 24 n hn (by omega) (by decide), sh1, m_put1 d _ J v (nI 16) (n + 1) (w1m_n _ _ _) (by omega) (by decide), sh2, m_put1 d _ J v (nI 8) (n + 2) (w1m_n _ _ _) (by omega) (by decide), sh3, m_put1 d _ J v (nI 0) (n + 3) (w1m_n _ _ _) (by omega) (by decide), b158_3]
  exact if_pos (by decide)
theorem c_put (d : Nat) (I : tI) (J : tJ) (x : Bool) (v : Int32) (n : Nat) (hn : I 1 2 = nI n) (h : n + 4 ≤ 1600) : am_G (am_ev (d + 1)) 73 [.ref 1, .int v] (I, J, (tc_R x), tc_S, 289, 11479) = some (none, (w4c I n v, J, (tc_R x), tc_S, 289, 11479)) := by
  have e0 : _ = _ := byt_u v 24 (by omega)
  have f0 : (24 : Int32) = nI 24 := rfl
  rw [b73_0, c_put1 d I J x v 24 n hn (by omega) (by decide), sh1, f0, e0, c_put1 d _ J x v (nI 16) (n + 1) (w1c_n _ _ _) (by omega) (by decide), sh2, byt_u v 16 (by omega), c_put1 d _ J x v (nI 8) (n + 2) (w1c_n _ _ _) (by omega) (by decide), sh3, byt_u v 8 (by omega), c_put1 d _ J x v (nI 0) (n + 3) (w1c_n _ _ _) (by omega) (by decide), byt_u v 0 (by omega), b73_3]
  exact if_pos (by decide)
theorem rl_T.w4 {C M : tI} (h : rl_T C M) {n : Nat} (hn : n + 4 ≤ 1600) (v : Int32) : rl_T (w4c C n v) (w4m M n v) :=
  (((h.w1 (by omega) (byt_bd _)).w1 (by omega) (byt_bd _)).w1 (by omega) (byt_bd _)).w1 (by omega) (byt_bd _)
theorem w4m_n (M : tI) (n : Nat) (b : Int32) : w4m M n b 0 1 = nI (n + 4) := w1m_n _ _ _
theorem w4c_n (C : tI) (n : Nat) (b : Int32) : w4c C n b 1 2 = nI (n + 4) := w1c_n _ _ _
theorem w4m_f {M : tI} {n a b : Nat} {v : Int32} (h1 : a ≠ 1) (h2 : a = 0 → b ≠ 1) : w4m M n v a b = M a b := by
  unfold w4m; rw [w1m_f h1 h2, w1m_f h1 h2, w1m_f h1 h2, w1m_f h1 h2]
theorem w4c_f {C : tI} {n a b : Nat} {v : Int32} (h1 : a ≠ 3) (h2 : a = 1 → b ≠ 2) : w4c C n v a b = C a b := by
  unfold w4c; rw [w1c_f h1 h2, w1c_f h1 h2, w1c_f h1 h2, w1c_f h1 h2]
theorem k_feed {x : Bool} {C M : tI} {J Jc : tJ} (h : Rl x C M J) (a b c e f : Int32) : Lk 109 159 [.int a, .int b, .int c, .int e, .int f] x C M Jc J := by
  have hT := h.2.1
  obtain ⟨t1, t2, t3⟩ := hT
  obtain ⟨n, hn, hM⟩ := t2
  have hC : C 1 2 = nI n := t1.trans hM
  have e20 : nI n + 20 = nI (n + 20) := nI_add n 20
  have e1600 : (1600 : Int32) = nI 1600 := rfl
  by_cases q : n + 20 ≤ 1600
  · refine ⟨nI (n + 20), x, w4c (w4c (w4c (w4c (w4c C n a) (n + 4) b) (n + 8) c) (n + 12) e) (n + 16) f, w4m (w4m (w4m (w4m (w4m M n a) (n + 4) b) (n + 8) c) (n + 12) e) (n + 16) f, J, ?_, ?_, ?_⟩
    · rw [b109_0, hC, e20, e1600, if_pos (nI_le q (by omega)), c_put _ C Jc x a n hC (by omega), am_call_s, am_toN, b109_30, c_put _ _ _ _ b (n + 4) (w4c_n _ _ _) (by omega), am_call_s, am_toN, b109_38, c_put _ _ _ _ c (n + 8) (w4c_n _ _ _) (by omega), am_call_s, am_toN, b109_46, c_put _ _ _ _ e (n + 12) (w4c_n _ _ _) (by omega), am_call_s, am_toN, b109_55, c_put _ _ _ _ f (n + 16) (w4c_n _ _ _) (by omega), am_call_s, am_toN, b109_64, w4c_n]
    · rw [b159_0, hM, e20, e1600, if_pos (nI_le q (by omega)), m_put _ M J a n hM (by omega), am_call_s, am_toN, b159_24, m_put _ _ _ b (n + 4) (w4m_n _ _ _) (by omega), am_call_s, am_toN, b159_29, m_put _ _ _ c (n + 8) (w4m_n _ _ _) (by omega), am_call_s, am_toN, b159_34, m_put _ _ _ e (n + 12) (w4m_n _ _ _) (by omega), am_call_s, am_toN, b159_40, m_put _ _ _ f (n + 16) (w4m_n _ _ _) (by omega), am_call_s, am_toN, b159_46, w4m_n]
    · refine h.tape (((((h.2.1.w4 (by omega) a).w4 (by omega) b).w4 (by omega) c).w4 (by omega) e).w4 (by omega) f) (fun u w h1 h2 => ?_) (fun u w h1 h2 => ?_)
      · rw [w4c_f h1 h2, w4c_f h1 h2, w4c_f h1 h2, w4c_f h1 h2, w4c_f h1 h2]
      · rw [w4m_f h1 h2, w4m_f h1 h2, w4m_f h1 h2, w4m_f h1 h2, w4m_f h1 h2]
  · refine ⟨-1, x, _, _, J, ?_, ?_, h.ref 0 (by omega)⟩
    · rw [b109_0, hC, e20, e1600, if_neg (nI_ge (by omega) (by omega)), cr0, am_call_s, am_toL, b109_21]
    · rw [b159_0, hM, e20, e1600, if_neg (nI_ge (by omega) (by omega)), mr0, am_call_s, am_toL, b159_18]
