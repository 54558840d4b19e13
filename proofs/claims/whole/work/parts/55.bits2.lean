/-! numbers and bits -/
theorem nI_bv (n : Nat) : (nI n).toBitVec = BitVec.ofNat 32 n := rfl
theorem nI_and (a b : Nat) : nI a &&& nI b = nI (a &&& b) := by
  apply Int32.toBitVec_inj.mp
  apply BitVec.eq_of_toNat_eq
  have e : (nI a &&& nI b).toBitVec = BitVec.ofNat 32 a &&& BitVec.ofNat 32 b := rfl
  rw [e, nI_bv, BitVec.toNat_and, BitVec.toNat_ofNat, BitVec.toNat_ofNat, BitVec.toNat_ofNat, Nat.and_mod_two_pow]
theorem nI_or (a b : Nat) : nI a ||| nI b = nI (a ||| b) := by
  apply Int32.toBitVec_inj.mp
  apply BitVec.eq_of_toNat_eq
  have e : (nI a ||| nI b).toBitVec = BitVec.ofNat 32 a ||| BitVec.ofNat 32 b := rfl
  rw [e, nI_bv, BitVec.toNat_or, BitVec.toNat_ofNat, BitVec.toNat_ofNat, BitVec.toNat_ofNat, Nat.or_mod_two_pow]
theorem nI_xor (a b : Nat) : nI a ^^^ nI b = nI (a ^^^ b) := by
  apply Int32.toBitVec_inj.mp
  apply BitVec.eq_of_toNat_eq
  have e : (nI a ^^^ nI b).toBitVec = BitVec.ofNat 32 a ^^^ BitVec.ofNat 32 b := rfl
  rw [e, nI_bv, BitVec.toNat_xor, BitVec.toNat_ofNat, BitVec.toNat_ofNat, BitVec.toNat_ofNat, Nat.xor_mod_two_pow]
theorem nI_shl (a n : Nat) (h : n < 32) : nI a <<< (nI n &&& 31) = nI (a * 2 ^ n) := by
  apply Int32.toBitVec_inj.mp
  apply BitVec.eq_of_toNat_eq
  have e : (nI a <<< (nI n &&& 31)).toBitVec = BitVec.ofNat 32 a <<< ((nI n &&& 31).toBitVec.smod 32).toNat := rfl
  rw [e, bt_sm n h, nI_bv, BitVec.toNat_shiftLeft, BitVec.toNat_ofNat, BitVec.toNat_ofNat, Nat.shiftLeft_eq, Nat.mod_mul_mod]
theorem nI_shr (a n : Nat) (ha : a < 2 ^ 31) (h : n < 32) : nI a >>> (nI n &&& 31) = nI (a / 2 ^ n) := by
  apply Int32.toBitVec_inj.mp
  apply BitVec.eq_of_toNat_eq
  have e : (nI a >>> (nI n &&& 31)).toBitVec = (BitVec.ofNat 32 a).sshiftRight ((nI n &&& 31).toBitVec.smod 32).toNat := rfl
  have m : (BitVec.ofNat 32 a).msb = false := by
    rw [BitVec.msb_eq_decide, BitVec.toNat_ofNat]
    simp
    omega
  have q : a / 2 ^ n ≤ a := Nat.div_le_self _ _
  rw [e, bt_sm n h, BitVec.sshiftRight_eq_of_msb_false m, nI_bv, BitVec.toNat_ushiftRight, BitVec.toNat_ofNat, BitVec.toNat_ofNat, Nat.shiftRight_eq_div_pow, Nat.mod_eq_of_lt (show a < 2 ^ 32 by omega), Nat.mod_eq_of_lt (show a / 2 ^ n < 2 ^ 32 by omega)]
theorem nI_and255 (a : Nat) : nI a &&& 255 = nI (a % 256) := by
  have e : (255 : Int32) = nI 255 := rfl
  rw [e, nI_and, show 255 = 2 ^ 8 - 1 from rfl, Nat.and_two_pow_sub_one_eq_mod]
theorem nI_rem {a b : Nat} (ha : a < 2 ^ 31) (hb : 0 < b) (hb2 : b < 2 ^ 31) : nI a - nI a / nI b * nI b = nI (a % b) := by
  rw [nI_div ha hb hb2, nI_mul, nI_sub ha (Nat.div_mul_le_self a b)]
  congr 1
  have := Nat.div_add_mod a b
  rw [Nat.mul_comm] at this
  omega
/-! image -/
section IMG
variable {x : Bool} {C M C' M' : tI} {J Jc : tJ}
/-- n bytes are written on both sides -/
def ioR (C M C' M' : tI) (n : Nat) : Prop := C' 0 7 = nI n ∧ M' 0 102 = nI n ∧ (∀ j, j < n → C' 287 j = M' 76 j ∧ bd (M' 76 j) 255) ∧ (∀ a b, a ≠ 287 → (a = 0 → b ≠ 7) → C' a b = C a b) ∧ ∀ a b, a ≠ 76 → (a = 0 → b ≠ 102) → M' a b = M a b
theorem ioR.w {n : Nat} (h : ioR C M C' M' n) (hn : n < 304) {u v : Int32} (e : u = v &&& 255) (d f : Nat) : ∃ C2 M2, am_G (am_ev (d + 1)) 153 [.ref 0, .int u] (C', Jc, (tc_R x), tc_S, 289, 11479) = some (none, (C2, Jc, (tc_R x), tc_S, 289, 11479)) ∧ am_G (am_ev (f + 1)) 283 [.ref 0, .int v] (M', J, tm_R, tm_S, 77, 21637) = some (none, (M2, J, tm_R, tm_S, 77, 21637)) ∧ ioR C M C2 M2 (n + 1) := by
  obtain ⟨h1, h2, h3, h4, h5⟩ := h
  refine ⟨am_u2 (am_u2 C' 287 n u) 0 7 (nI (n + 1)), am_u2 (am_u2 M' 76 n (v &&& 255)) 0 102 (nI (n + 1)), ?_, ?_, u2_s, u2_s, fun j hj => ?_, fun a b q1 q2 => ?_, fun a b q1 q2 => ?_⟩
  · (rw [b153_0, h1, if_neg (show ¬ (304 : Int32) ≤ nI n from nI_ge (b := 304) hn (by omega)), if_pos (nI_in hn (by omega))]; (try simp (disch := omega) only [nI_clamp]); rw [nI_1])
  · (rw [b283_0, h2, if_pos (nI_in (by omega) (by omega))]; (try simp (disch := omega) only [nI_clamp]); rw [nI_1])
  · have y1 : am_u2 (am_u2 C' 287 n u) 0 7 (nI (n + 1)) 287 j = am_u2 C' 287 n u 287 j := u2_c (by omega)
    have y2 : am_u2 (am_u2 M' 76 n (v &&& 255)) 0 102 (nI (n + 1)) 76 j = am_u2 M' 76 n (v &&& 255) 76 j := u2_c (by omega)
    rw [y1, y2]
    by_cases z : j = n
    · subst z; rw [u2_s, u2_s, e]; exact ⟨rfl, byt_bd _⟩
    · rw [u2_p z, u2_p z]; exact h3 j (by omega)
  · rw [fr1 (by omega), fr1 (by omega)]; exact h4 a b q1 q2
  · rw [fr1 (by omega), fr1 (by omega)]; exact h5 a b q1 q2
theorem k_image (h : Rl x C M J) : Lk 152 284 [] x C M Jc J := by
  have nt := h.ntB.cl (by omega)
  have et := h.ntB.eq (by omega)
  obtain ⟨t, ht9, eh⟩ := h.hourB
  have i0 : ioR C M (am_u2 C 0 7 0) (am_u2 M 0 102 0) 0 := ⟨u2_s, u2_s, fun j hj => by omega, fun a b q1 q2 => by rw [fr1 (by omega)], fun a b q1 q2 => by rw [fr1 (by omega)]⟩
  have rC : ∀ {C' M' : tI} {n : Nat}, ioR C M C' M' n → C' 41 1 = nI t ∧ C' 41 10 = M 0 74 ∧ M' 0 65 = nI t ∧ M' 0 74 = M 0 74 := by
    intro C' M' n q
    exact ⟨(q.2.2.2.1 41 1 (by omega) (by omega)).trans (h.hour.trans eh), (q.2.2.2.1 41 10 (by omega) (by omega)).trans h.nt, (q.2.2.2.2 0 65 (by omega) (by omega)).trans eh, q.2.2.2.2 0 74 (by omega) (by omega)⟩
  have m255 : ∀ {v : Int32} {k : Nat}, bd v k → k ≤ 255 → v = v &&& 255 := by
    rintro v k ⟨j, hj, rfl⟩ hk
    rw [nI_and255, Nat.mod_eq_of_lt (by omega)]
  -- the head
  obtain ⟨C1, M1, a1, a2, i1⟩ := i0.w (x := x) (Jc := Jc) (J := J) (by omega) (u := nI t >>> (8 &&& 31)) (v := nI t >>> (8 &&& 31)) (by
    have e : nI t >>> ((8 : Int32) &&& 31) = nI (t / 2 ^ 8) := nI_shr t 8 (by omega) (by omega)
    rw [e]; exact m255 (bd_nI (n := 255) (by omega)) (by omega)) 98 98
  obtain ⟨c1, c2, c3, c4⟩ := rC i1
  obtain ⟨C2, M2, a3, a4, i2⟩ := i1.w (x := x) (Jc := Jc) (J := J) (by omega) (u := nI t &&& 255) (v := nI t) rfl 98 98
  obtain ⟨d1, d2, d3, d4⟩ := rC i2
  obtain ⟨C3, M3, a5, a6, i3⟩ := i2.w (x := x) (Jc := Jc) (J := J) (by omega) (u := M 0 74) (v := M 0 74) (m255 h.ntB (by omega)) 98 98
  have head1 : am_G (am_ev 100) 152 [.ref 0] (C, Jc, (tc_R x), tc_S, 289, 11479) = am_ev 100 152 47 [.ref 0, .int (nI 0), am_un] [] (C3, Jc, (tc_R x), tc_S, 289, 11479) := by
    rw [b152_0, h.hour, eh, a1, am_call_s, am_toN, b152_19, c1, a3, am_call_s, am_toN, b152_34, d2, a5, am_call_s, am_toN, b152_45]; rfl
  have head2 : am_G (am_ev 100) 284 [.ref 0] (M, J, tm_R, tm_S, 77, 21637) = am_ev 100 284 34 [.ref 0, .int (nI 0), am_un] [] (M3, J, tm_R, tm_S, 77, 21637) := by
    rw [b284_0, eh, a2, am_call_s, am_toN, b284_16, c3, a4, am_call_s, am_toN, b284_24, d4, a6, am_call_s, am_toN, b284_32]; rfl
  -- the tyres
  have loop : ∀ k u (C' M' : tI) (v2 w2 : Value), u + k = Int32.toNatClampNeg (M 0 74) → ioR C M C' M' (3 + 5 * u) → ∃ C2 M2, am_ev 100 152 47 [.ref 0, .int (nI u), v2] [] (C', Jc, (tc_R x), tc_S, 289, 11479) = am_ev 100 152 142 [.ref 0, .int 47, .int 0] [] (C2, Jc, (tc_R x), tc_S, 289, 11479) ∧ am_ev 100 284 34 [.ref 0, .int (nI u), w2] [] (M', J, tm_R, tm_S, 77, 21637) = am_ev 100 284 109 [.ref 0, .int 47, .int 0] [] (M2, J, tm_R, tm_S, 77, 21637) ∧ ioR C M C2 M2 (3 + 5 * Int32.toNatClampNeg (M 0 74)) := by
    intro k
    induction k with
    | zero =>
      intro u C' M' v2 w2 hu q
      obtain rfl : u = Int32.toNatClampNeg (M 0 74) := by omega
      obtain ⟨_, z2, _, z4⟩ := rC q
      have ge : M 0 74 ≤ nI (Int32.toNatClampNeg (M 0 74)) := by rw [← et]; exact Int32.le_refl _
      exact ⟨C', M', by rw [b152_47, z2, if_pos ge], by rw [b284_34, z4, if_pos ge], q⟩
    | succ k ih =>
      intro u C' M' v2 w2 hu q
      have hu' : u < Int32.toNatClampNeg (M 0 74) := by omega
      have g := h.H.2.2.2.1 u hu'
      have i60 : am_in (nI u) 60 := nI_in (by omega) (by omega)
      have cu : (nI u).toNatClampNeg = u := nI_clamp (by omega)
      have htk := tt_k (k := u) (by omega)
      have gl : ¬ M 0 74 ≤ nI u := by rw [et]; exact nI_ge hu' (by omega)
      obtain ⟨_, z2, _, z4⟩ := rC q
      have rr : ∀ {C' M' : tI} {n : Nat}, ioR C M C' M' n → C' (150 + 2 * u) 0 = M 54 u ∧ C' 82 u = M 55 u ∧ C' (150 + 2 * u) 2 = M 57 u ∧ M' 54 u = M 54 u ∧ M' 55 u = M 55 u ∧ M' 57 u = M 57 u := by
        intro C' M' n q
        exact ⟨(q.2.2.2.1 _ 0 (by omega) (by omega)).trans g.1, (q.2.2.2.1 _ u (by omega) (by omega)).trans g.2.1, (q.2.2.2.1 _ 2 (by omega) (by omega)).trans g.2.2.2.1, q.2.2.2.2 _ u (by omega) (by omega), q.2.2.2.2 _ u (by omega) (by omega), q.2.2.2.2 _ u (by omega) (by omega)⟩
      obtain ⟨D1, N1, b1, b2, j1⟩ := q.w (x := x) (Jc := Jc) (J := J) (by omega) (u := M 54 u) (v := M 54 u) (m255 g.2.2.2.2.2.2.2.1 (by omega)) 98 98
      obtain ⟨D2, N2, b3, b4, j2⟩ := j1.w (x := x) (Jc := Jc) (J := J) (by omega) (u := M 55 u) (v := M 55 u) (m255 g.2.2.2.2.2.2.2.2.2.1 (by omega)) 98 98
      obtain ⟨D3, N3, b5, b6, j3⟩ := j2.w (x := x) (Jc := Jc) (J := J) (by omega) (u := M 57 u >>> (16 &&& 31) &&& 255) (v := M 57 u >>> (16 &&& 31)) rfl 98 98
      obtain ⟨D4, N4, b7, b8, j4⟩ := j3.w (x := x) (Jc := Jc) (J := J) (by omega) (u := M 57 u >>> (8 &&& 31) &&& 255) (v := M 57 u >>> (8 &&& 31)) rfl 98 98
      obtain ⟨D5, N5, b9, b10, j5⟩ := j4.w (x := x) (Jc := Jc) (J := J) (by omega) (u := M 57 u &&& 255) (v := M 57 u) rfl 98 98
      obtain ⟨C2, M2, e1, e2, e3⟩ := ih (u + 1) D5 N5 (.ref (150 + 2 * u)) w2 (by omega) (by rw [show 3 + 5 * (u + 1) = 3 + 5 * u + 1 + 1 + 1 + 1 + 1 by omega]; exact j5)
      refine ⟨C2, M2, ?_, ?_, e3⟩
      · rw [b152_47, z2, if_neg gl, if_pos i60]
        simp only [cu]
        rw [if_pos htk, (rr q).1, b1, am_call_s, am_toN, b152_76, if_pos i60]
        simp only [cu]
        rw [(rr j1).2.1, b3, am_call_s, am_toN, b152_89, if_pos htk, (rr j2).2.2.1, b5, am_call_s, am_toN, b152_104, if_pos htk, (rr j3).2.2.1, b7, am_call_s, am_toN, b152_119, if_pos htk, (rr j4).2.2.1, b9, am_call_s, am_toN, b152_131, nI_1]
        exact e1
      · rw [b284_34, z4, if_neg gl, if_pos i60]
        simp only [cu]
        rw [(rr q).2.2.2.1, b2, am_call_s, am_toN, b284_52, if_pos i60]
        simp only [cu]
        rw [(rr j1).2.2.2.2.1, b4, am_call_s, am_toN, b284_62, if_pos i60]
        simp only [cu]
        rw [(rr j2).2.2.2.2.2, b6, am_call_s, am_toN, b284_75, if_pos i60]
        simp only [cu]
        rw [(rr j3).2.2.2.2.2, b8, am_call_s, am_toN, b284_88, if_pos i60]
        simp only [cu]
        rw [(rr j4).2.2.2.2.2, b10, am_call_s, am_toN, b284_98, nI_1]
        exact e2
  obtain ⟨C4, M4, l1, l2, i4⟩ := loop (Int32.toNatClampNeg (M 0 74)) 0 C3 M3 am_un am_un (by omega) i3
  -- the check
  have chk : ∀ k j c, j + k = 3 + 5 * Int32.toNatClampNeg (M 0 74) → c ≤ 240 → ∃ c', c' ≤ 240 ∧ am_ev 100 152 142 [.ref 0, .int (nI c), .int (nI j)] [] (C4, Jc, (tc_R x), tc_S, 289, 11479) = am_ev 100 152 142 [.ref 0, .int (nI c'), .int (nI (3 + 5 * Int32.toNatClampNeg (M 0 74)))] [] (C4, Jc, (tc_R x), tc_S, 289, 11479) ∧ am_ev 100 284 109 [.ref 0, .int (nI c), .int (nI j)] [] (M4, J, tm_R, tm_S, 77, 21637) = am_ev 100 284 109 [.ref 0, .int (nI c'), .int (nI (3 + 5 * Int32.toNatClampNeg (M 0 74)))] [] (M4, J, tm_R, tm_S, 77, 21637) := by
    intro k
    induction k with
    | zero =>
      intro j c hj hc
      obtain rfl : j = 3 + 5 * Int32.toNatClampNeg (M 0 74) := by omega
      exact ⟨c, hc, rfl, rfl⟩
    | succ k ih =>
      intro j c hj hc
      obtain ⟨q1, w, hw, ew⟩ := i4.2.2.1 j (by omega)
      obtain ⟨c', hc', e1, e2⟩ := ih (j + 1) ((3 * c + w) % 241) (by omega) (by have := Nat.mod_lt (3 * c + w) (show 0 < 241 by omega); omega)
      have z : ((3 : Int32) * nI c + nI w) - ((3 : Int32) * nI c + nI w) / 241 * 241 = nI ((3 * c + w) % 241) := by
        have e3 : (3 : Int32) * nI c = nI (3 * c) := nI_mul 3 c
        rw [e3, nI_add]
        exact nI_rem (b := 241) (by omega) (by omega) (by omega)
      refine ⟨c', hc', ?_, ?_⟩
      · (rw [b152_142, i4.1, if_neg (nI_ge (by omega) (by omega)), if_pos (nI_in (by omega) (by omega))]; (try simp (disch := omega) only [nI_clamp]); rw [q1, ew, z, nI_1])
        exact e1
      · (rw [b284_109, i4.2.1, if_neg (nI_ge (by omega) (by omega)), if_pos (nI_in (by omega) (by omega))]; (try simp (disch := omega) only [nI_clamp]); rw [ew, z, nI_1])
        exact e2
  obtain ⟨c', hc', k1, k2⟩ := chk _ 0 47 (Nat.zero_add _) (by omega)
  obtain ⟨C5, M5, o1, o2, i5⟩ := i4.w (x := x) (Jc := Jc) (J := J) (by omega) (u := nI c') (v := nI c') (m255 (bd_nI (n := 240) hc') (by omega)) 98 98
  refine ⟨nI (3 + 5 * Int32.toNatClampNeg (M 0 74) + 1), x, C5, M5, J, ?_, ?_, ?_⟩
  · rw [head1, l1]
    refine Eq.trans k1 ?_
    rw [b152_142, i4.1, if_pos (Int32.le_refl _), o1, am_call_s, am_toN, b152_176, i5.1]
  · rw [head2, l2]
    refine Eq.trans k2 ?_
    rw [b284_109, i4.2.1, if_pos (Int32.le_refl _), o2, am_call_s, am_toN, b284_143, i5.2.1]
  · have hx := tc_P4 x
    have n74 := h.n74
    obtain ⟨hB, hT, hF, hN, hW, hO, hV, hOw, hP, hH⟩ := h
    have fC := i5.2.2.2.1
    have fM := i5.2.2.2.2
    refine ⟨?_, ?_, ?_, ?_, ?_, ?_, ?_, ?_, ?_, ?_⟩
    · rw [fM 0 12 (by omega) (by omega)]; exact hB
    · exact hT.fr (fun a b _ => fC a b (by omega) (by omega)) (fun a b _ => fM a b (by omega) (by omega))
    · exact hF.fr (fun b _ => fC 1 b (by omega) (by omega)) (fun b _ => fM 0 b (by omega) (by omega))
    · exact hN.fr (fun b => fC _ b (by omega) (by omega)) (fun b => fM _ b (by omega) (by omega))
    · exact hW.fr (fC _ _ (by omega) (by omega)) (fM _ _ (by omega) (by omega))
    · refine ⟨i5.1.trans i5.2.1.symm, by rw [i5.2.1]; exact bd_nI (by omega), fun j hj => ?_⟩
      (rw [i5.2.1] at hj; (try simp (disch := omega) only [nI_clamp] at hj))
      exact (i5.2.2.1 j hj).1
    · exact hV.fr n74 (fun a b _ => fC a b (by omega) (by omega)) (fun a b _ => fM a b (by omega) (by omega))
    · exact hOw.fr (fun b => fC _ b (by omega) (by omega))
    · exact hP.fr (fun a b _ => fC a b (by omega) (by omega)) (fun a b _ => fM a b (by omega) (by omega)) (fun _ _ _ => rfl)
    · exact hH.fr (fun a b _ => fC a b (by omega) (by omega)) (fun a b _ => fM a b (by omega) (by omega))
end IMG
