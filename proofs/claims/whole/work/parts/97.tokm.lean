/-! TOKENS: the model -/
section TOKM
variable {T : Nat → Nat} {n : Nat} {C M : tI} {J : tJ}
theorem m_isL (d : Nat) (I : tI) (J : tJ) {c : Nat} (hc : c ≤ 255) : am_G (am_ev (d + 1)) 162 [.int (nI c)] (I, J, tm_R, tm_S, 77, 21637) = some (some (.int (am_b (isL c))), (I, J, tm_R, tm_S, 77, 21637)) := by
  rw [b162_0]
  by_cases h1 : c < 97
  · rw [if_pos (ltR (c := 97) 97 rfl h1 (by omega)), am_b0 (fun q => by unfold isL at q; omega)]
  · rw [if_neg (nltR (c := 97) 97 rfl (by omega) (by omega))]
    by_cases h2 : 122 < c
    · rw [if_pos (ltL (c := 122) 122 rfl h2 (by omega)), am_b0 (fun q => by unfold isL at q; omega)]
    · rw [if_neg (nltL (c := 122) 122 rfl (by omega) (by omega)), am_b1 ⟨by omega, by omega⟩]
theorem m_isD (d : Nat) (I : tI) (J : tJ) {c : Nat} (hc : c ≤ 255) : am_G (am_ev (d + 1)) 163 [.int (nI c)] (I, J, tm_R, tm_S, 77, 21637) = some (some (.int (am_b (isD c))), (I, J, tm_R, tm_S, 77, 21637)) := by
  rw [b163_0]
  by_cases h1 : c < 48
  · rw [if_pos (ltR (c := 48) 48 rfl h1 (by omega)), am_b0 (fun q => by unfold isD at q; omega)]
  · rw [if_neg (nltR (c := 48) 48 rfl (by omega) (by omega))]
    by_cases h2 : 57 < c
    · rw [if_pos (ltL (c := 57) 57 rfl h2 (by omega)), am_b0 (fun q => by unfold isD at q; omega)]
    · rw [if_neg (nltL (c := 57) 57 rfl (by omega) (by omega)), am_b1 ⟨by omega, by omega⟩]
theorem m_bl0 (d : Nat) (I : tI) (J : tJ) (h : I 0 8 = 0) (k p : Int32) : am_G (am_ev (d + 1)) 161 [.ref 0, .int k, .int p] (I, J, tm_R, tm_S, 77, 21637) = some (none, (am_u2 (am_u2 I 0 8 k) 0 9 p, J, tm_R, tm_S, 77, 21637)) := by
  rw [b161_0, if_pos (by rw [h]; decide)]
theorem m_bl1 (d : Nat) (I : tI) (J : tJ) {f : Nat} (h : I 0 8 = nI f) (h0 : 0 < f) (hf : f ≤ 5) (k p : Int32) : am_G (am_ev (d + 1)) 161 [.ref 0, .int k, .int p] (I, J, tm_R, tm_S, 77, 21637) = some (none, (I, J, tm_R, tm_S, 77, 21637)) := by
  rw [b161_0, h, if_neg (nI_nle h0 (by omega))]
theorem m_skip (h : tpR T n C M) (d : Nat) (v2 v3 v4 v5 : Value) : ∀ k p q, p + k = q → scR isB T n p q → am_ev (d + 1) 164 5 [.ref 0, .int (nI p), v2, v3, v4, v5] [] (M, J, tm_R, tm_S, 77, 21637) = am_ev (d + 1) 164 41 [.ref 0, .int (nI q), v2, v3, v4, v5] [] (M, J, tm_R, tm_S, 77, 21637) := by
  obtain ⟨h1, h2, h3, h4⟩ := h
  intro k
  induction k with
  | zero =>
    intro p q e hs
    obtain rfl : p = q := by omega
    have hpn := hs.2.1
    rw [b164_5, h2]
    by_cases hp : p < n
    · have hc : Int32.toNatClampNeg (nI p) = p := nI_clamp (by omega)
      have hi : am_in (nI p) 1800 := nI_in (by omega) (by omega)
      have hb := hs.2.2.2 hp
      obtain ⟨t1, t2, t3⟩ := h4 p hp
      have e10 : ¬ nI (T p) = 10 := fun q => hb (Or.inl ((nI_eq (b := 10) (by omega) (by omega)).mp q))
      have e32 : ¬ nI (T p) = 32 := fun q => hb (Or.inr ((nI_eq (b := 32) (by omega) (by omega)).mp q))
      (rw [if_neg (nI_ge hp (by omega)), if_pos hi]; (try simp only [hc]); rw [t2, if_neg e32, if_pos hi, if_neg e10])
    · obtain rfl : p = n := by omega
      rw [if_pos (nI_le (Nat.le_refl _) (by omega))]
  | succ k ih =>
    intro p q e hs
    obtain ⟨hpq, hqn, hin, hout⟩ := hs
    have hp : p < n := by omega
    have hc : Int32.toNatClampNeg (nI p) = p := nI_clamp (by omega)
    have hi : am_in (nI p) 1800 := nI_in (by omega) (by omega)
    have hb := hin p (Nat.le_refl _) (by omega)
    obtain ⟨t1, t2, t3⟩ := h4 p hp
    have h5 := ih (p + 1) q (by omega) ⟨by omega, hqn, fun j a b => hin j (by omega) b, hout⟩
    rw [nI_succ] at h5
    (rw [b164_5, h2, if_neg (nI_ge hp (by omega)), if_pos hi]; (try simp only [hc]); rw [t2])
    by_cases e32 : T p = 32
    · rw [e32, if_pos (show nI 32 = 32 from rfl)]; exact h5
    · have e10 : T p = 10 := by rcases hb with q | q <;> omega
      rw [e10, if_neg (by decide : ¬ nI 10 = 32), if_pos hi, if_pos (show nI 10 = 10 from rfl)]; exact h5
/-- steps of the loop over a word or a number -/
theorem m_end (h : tpR T n C M) (d : Nat) {r : Nat} (hr : r ≤ n) (x2 x3 x4 x5 : Int32) (he : r < n → ¬ (if x2 = 0 then isD (T r) else isL (T r))) : am_ev (d + 2) 164 200 [.ref 0, .int (nI r), .int x2, .int x3, .int x4, .int x5] [] (M, J, tm_R, tm_S, 77, 21637) = some (none, (am_u2 M 0 5 (nI r), J, tm_R, tm_S, 77, 21637)) := by
  obtain ⟨h1, h2, h3, h4⟩ := h
  rw [b164_200, h2]
  by_cases hn : r < n
  · obtain ⟨t1, t2, t3⟩ := h4 r hn
    have hc : Int32.toNatClampNeg (nI r) = r := nI_clamp (by omega)
    have hi : am_in (nI r) 1800 := nI_in (by omega) (by omega)
    have hx := he hn
    (rw [if_neg (nI_ge hn (by omega)), if_pos hi, if_pos hi]; (try simp only [hc]); rw [t2])
    by_cases e : x2 = 0
    · rw [if_pos e] at hx
      rw [if_pos e, m_isD _ _ _ t3, am_call_s, am_toL, b164_236, am_b0 hx, if_pos rfl]
    · rw [if_neg e] at hx
      rw [if_neg e, m_isL _ _ _ t3, am_call_s, am_toL, b164_221, am_b0 hx, if_pos rfl]
  · rw [if_pos (nI_le (by omega) (by omega))]
theorem m_in (h : tpR T n C M) (d : Nat) {r : Nat} (hr : r < n) (x2 x3 x4 x5 : Int32) (he : if x2 = 0 then isD (T r) else isL (T r)) : am_ev (d + 2) 164 200 [.ref 0, .int (nI r), .int x2, .int x3, .int x4, .int x5] [] (M, J, tm_R, tm_S, 77, 21637) = am_ev (d + 2) 164 239 [.ref 0, .int (nI r), .int x2, .int x3, .int x4, .int x5] [] (M, J, tm_R, tm_S, 77, 21637) := by
  obtain ⟨h1, h2, h3, h4⟩ := h
  obtain ⟨t1, t2, t3⟩ := h4 r hr
  have hc : Int32.toNatClampNeg (nI r) = r := nI_clamp (by omega)
  have hi : am_in (nI r) 1800 := nI_in (by omega) (by omega)
  (rw [b164_200, h2, if_neg (nI_ge hr (by omega)), if_pos hi, if_pos hi]; (try simp only [hc]); rw [t2])
  by_cases e : x2 = 0
  · rw [if_pos e] at he
    rw [if_pos e, m_isD _ _ _ t3, am_call_s, am_toL, b164_236, am_b1 he, if_neg (by decide : ¬ (1 : Int32) = 0)]
  · rw [if_neg e] at he
    rw [if_neg e, m_isL _ _ _ t3, am_call_s, am_toL, b164_221, am_b1 he, if_neg (by decide : ¬ (1 : Int32) = 0)]
theorem m_lt (h : tpR T n C M) (d : Nat) {r k : Nat} (hr : r < n) (hL : isL (T r)) (hk : k < 6) : am_ev (d + 2) 164 200 [.ref 0, .int (nI r), .int 1, .int 0, .int 6, .int (nI k)] [] (M, J, tm_R, tm_S, 77, 21637) = am_ev (d + 2) 164 200 [.ref 0, .int (nI (r + 1)), .int 1, .int 0, .int 6, .int (nI (k + 1))] [] (M, am_u2 J 0 7 ((J 0 7 <<< ((Int32.toInt64 8) &&& 63)) ||| (Int32.toInt64 (nI (T r)))), tm_R, tm_S, 77, 21637) := by
  obtain ⟨t1, t2, t3⟩ := h.2.2.2 r hr
  have hn := h.2.2.1
  have hc : Int32.toNatClampNeg (nI r) = r := nI_clamp (by omega)
  have hi : am_in (nI r) 1800 := nI_in (by omega) (by omega)
  (rw [m_in h d hr _ _ _ _ (by rw [if_neg (by decide : ¬ (1 : Int32) = 0)]; exact hL), b164_239, if_neg (neR (c := 6) 6 rfl (by omega) (by omega) (by omega)), b164_252, if_neg (geL (c := 6) 6 rfl hk (by omega)), if_neg (by decide : ¬ (1 : Int32) = 0), if_pos hi]; (try simp only [hc]); rw [t2, b164_282, if_neg (geL (c := 6) 6 rfl hk (by omega)), if_pos rfl, nI_1, nI_1])
theorem m_dg (h : tpR T n C M) (d : Nat) {r k : Nat} (hr : r < n) (hL : isD (T r)) (hk : k < 4) : am_ev (d + 2) 164 200 [.ref 0, .int (nI r), .int 0, .int 1, .int 4, .int (nI k)] [] (M, J, tm_R, tm_S, 77, 21637) = am_ev (d + 2) 164 200 [.ref 0, .int (nI (r + 1)), .int 0, .int 1, .int 4, .int (nI (k + 1))] [] (am_u2 M 0 6 ((10 : Int32) * M 0 6 + nI (T r) - 48), J, tm_R, tm_S, 77, 21637) := by
  obtain ⟨t1, t2, t3⟩ := h.2.2.2 r hr
  have hn := h.2.2.1
  have hc : Int32.toNatClampNeg (nI r) = r := nI_clamp (by omega)
  have hi : am_in (nI r) 1800 := nI_in (by omega) (by omega)
  (rw [m_in h d hr _ _ _ _ (by rw [if_pos rfl]; exact hL), b164_239, if_neg (neR (c := 4) 4 rfl (by omega) (by omega) (by omega)), b164_252, if_neg (geL (c := 4) 4 rfl hk (by omega)), if_pos rfl, b164_282, if_neg (geL (c := 4) 4 rfl hk (by omega)), if_neg (by decide : ¬ (1 : Int32) = 0), if_pos hi]; (try simp only [hc]); rw [t2, nI_1, nI_1])
/-- beyond the most, nothing is read any more -/
theorem m_ov (h : tpR T n C M) (d : Nat) {r k m f : Nat} (hr : r < n) (x2 x3 : Int32) (he : if x2 = 0 then isD (T r) else isL (T r)) (hk : m ≤ k) (hk2 : k < 2000) (hf : M 0 8 = nI f) (f0 : 0 < f) (f5 : f ≤ 5) : am_ev (d + 2) 164 200 [.ref 0, .int (nI r), .int x2, .int x3, .int (nI m), .int (nI k)] [] (M, J, tm_R, tm_S, 77, 21637) = am_ev (d + 2) 164 200 [.ref 0, .int (nI (r + 1)), .int x2, .int x3, .int (nI m), .int (nI (k + 1))] [] (M, J, tm_R, tm_S, 77, 21637) := by
  have e : am_ev (d + 2) 164 239 [.ref 0, .int (nI r), .int x2, .int x3, .int (nI m), .int (nI k)] [] (M, J, tm_R, tm_S, 77, 21637) = am_ev (d + 2) 164 252 [.ref 0, .int (nI r), .int x2, .int x3, .int (nI m), .int (nI k)] [] (M, J, tm_R, tm_S, 77, 21637) := by
    rw [b164_239]
    by_cases q : nI k = nI m
    · rw [if_pos q, m_bl1 _ _ _ hf f0 f5, am_call_s, am_toN]
    · rw [if_neg q]
  rw [m_in h d hr _ _ _ _ he, e, b164_252, if_pos (nI_le hk (by omega)), b164_282, if_pos (nI_le hk (by omega)), nI_1, nI_1]
theorem m_ob (h : tpR T n C M) (d : Nat) {r m : Nat} (hr : r < n) (x2 x3 : Int32) (he : if x2 = 0 then isD (T r) else isL (T r)) (hm : m < 2000) (hf : M 0 8 = 0) : am_ev (d + 2) 164 200 [.ref 0, .int (nI r), .int x2, .int x3, .int (nI m), .int (nI m)] [] (M, J, tm_R, tm_S, 77, 21637) = am_ev (d + 2) 164 200 [.ref 0, .int (nI (r + 1)), .int x2, .int x3, .int (nI m), .int (nI (m + 1))] [] (am_u2 (am_u2 M 0 8 1) 0 9 (nI r), J, tm_R, tm_S, 77, 21637) := by
  rw [m_in h d hr _ _ _ _ he, b164_239, if_pos rfl, m_bl0 _ _ _ hf, am_call_s, am_toN, b164_252, if_pos (nI_le (Nat.le_refl _) (by omega)), b164_282, if_pos (nI_le (Nat.le_refl _) (by omega)), nI_1, nI_1]
/-- a run that is at fault goes to its end -/
def flt (M M' : tI) (J J' : tJ) : Prop := MF M M' ∧ JF J J' ∧ M' 0 8 = M 0 8 ∧ M' 0 9 = M 0 9
theorem m_tail (d : Nat) {f : Nat} (f0 : 0 < f) (f5 : f ≤ 5) {q : Nat} (x2 x3 : Int32) {m : Nat} (hx : (x2 = 1 ∧ x3 = 0 ∧ m = 6) ∨ (x2 = 0 ∧ x3 = 1 ∧ m = 4)) : ∀ t (M : tI) (J : tJ) r k, r + t = q → k ≤ r → tpR T n C M → M 0 8 = nI f → q ≤ n → (∀ j, r ≤ j → j < q → if x2 = 0 then isD (T j) else isL (T j)) → (q < n → ¬ (if x2 = 0 then isD (T q) else isL (T q))) → ∃ M' J', am_ev (d + 2) 164 200 [.ref 0, .int (nI r), .int x2, .int x3, .int (nI m), .int (nI k)] [] (M, J, tm_R, tm_S, 77, 21637) = some (none, (M', J', tm_R, tm_S, 77, 21637)) ∧ flt M M' J J' := by
  intro t
  induction t with
  | zero =>
    intro M J r k e _ h hf hq _ hout
    obtain rfl : r = q := by omega
    refine ⟨_, J, m_end h d hq _ _ _ _ hout, (MF.rf M).u (by omega) (by omega) _, JF.rf J, ?_, ?_⟩
    · rw [u2_p (by omega)]
    · rw [u2_p (by omega)]
  | succ t ih =>
    intro M J r k e hkr h hf hq hin hout
    have hn := h.2.2.1
    have he := hin r (Nat.le_refl _) (by omega)
    by_cases hk : m ≤ k
    · rw [m_ov h d (by omega) x2 x3 he hk (by omega) hf f0 f5]
      exact ih M J (r + 1) (k + 1) (by omega) (by omega) h hf hq (fun j a b => hin j (by omega) b) hout
    · rcases hx with ⟨rfl, rfl, rfl⟩ | ⟨rfl, rfl, rfl⟩
      · rw [if_neg (by decide : ¬ (1 : Int32) = 0)] at he
        obtain ⟨M', J', e1, e2, e3, e4, e5⟩ := ih M (am_u2 J 0 7 ((J 0 7 <<< ((Int32.toInt64 8) &&& 63)) ||| (Int32.toInt64 (nI (T r))))) (r + 1) (k + 1) (by omega) (by omega) h hf hq (fun j a b => hin j (by omega) b) hout
        refine ⟨M', J', (m_lt h d (by omega) he (by omega)).trans e1, e2, ((JF.rf J).u _).tr e3, e4, e5⟩
      · rw [if_pos rfl] at he
        have hF : MF M (am_u2 M 0 6 ((10 : Int32) * M 0 6 + nI (T r) - 48)) := (MF.rf M).u (by omega) (by omega) _
        have h8 : am_u2 M 0 6 ((10 : Int32) * M 0 6 + nI (T r) - 48) 0 8 = M 0 8 := u2_p (by omega)
        have h9 : am_u2 M 0 6 ((10 : Int32) * M 0 6 + nI (T r) - 48) 0 9 = M 0 9 := u2_p (by omega)
        obtain ⟨M', J', e1, e2, e3, e4, e5⟩ := ih _ J (r + 1) (k + 1) (by omega) (by omega) (h.tf (TF.rf C) hF) (h8.trans hf) hq (fun j a b => hin j (by omega) b) hout
        exact ⟨M', J', (m_dg h d (by omega) he (by omega)).trans e1, hF.tr e2, e3, e4.trans h8, e5.trans h9⟩
theorem sh8 {a c : Nat} (hc : c < 256) (ha : a < 2 ^ 48) : (Int64.ofNat a <<< ((Int32.toInt64 8) &&& 63)) ||| (Int32.toInt64 (nI c)) = Int64.ofNat (256 * a + c) := by
  apply Int64.toBitVec_inj.mp
  have e1 : (Int32.toInt64 (nI c)) = Int64.ofNat c := by
    have := nI_l (n := c) (by omega)
    exact this
  have e2 : ((Int64.ofNat a <<< ((Int32.toInt64 8) &&& 63)) ||| Int64.ofNat c).toBitVec = (BitVec.ofNat 64 a <<< 8) ||| BitVec.ofNat 64 c := rfl
  have e3 : (Int64.ofNat (256 * a + c)).toBitVec = BitVec.ofNat 64 (256 * a + c) := rfl
  rw [e1, e2, e3]
  apply BitVec.eq_of_toNat_eq
  rw [BitVec.toNat_or, BitVec.toNat_shiftLeft, BitVec.toNat_ofNat, BitVec.toNat_ofNat, BitVec.toNat_ofNat, Nat.shiftLeft_eq, Nat.mod_eq_of_lt (by omega : a < 2 ^ 64), Nat.mod_eq_of_lt (by omega : a * 2 ^ 8 < 2 ^ 64), Nat.mod_eq_of_lt (by omega : c < 2 ^ 64), Nat.mod_eq_of_lt (by omega : 256 * a + c < 2 ^ 64), Nat.mul_comm a, ← Nat.two_pow_add_eq_or_of_lt (by omega : c < 2 ^ 8)]
theorem m_word (h : tpR T n C M) (d : Nat) {p : Nat} : ∀ k, k ≤ 6 → p + k ≤ n → (∀ j, p ≤ j → j < p + k → isL (T j)) → am_ev (d + 2) 164 200 [.ref 0, .int (nI p), .int 1, .int 0, .int 6, .int 0] [] (M, am_u2 J 0 7 0, tm_R, tm_S, 77, 21637) = am_ev (d + 2) 164 200 [.ref 0, .int (nI (p + k)), .int 1, .int 0, .int 6, .int (nI k)] [] (M, am_u2 J 0 7 (Int64.ofNat (e8 (wdF T p k))), tm_R, tm_S, 77, 21637) := by
  intro k
  induction k with
  | zero => intro _ _ _; rfl
  | succ k ih =>
    intro hk hp hL
    have hA := wdF_a T p k (fun j a b => hL j a (by omega))
    have hb := e8_b hA (by rw [wdF_l]; omega)
    have hl := hL (p + k) (by omega) (by omega)
    have e : wdF T p (k + 1) = wdF T p k ++ [T (p + k) - 96] := rfl
    rw [ih (by omega) (by omega) (fun j a b => hL j a (by omega)), m_lt h d (by omega) hl (by omega), u2_s, sh8 (by omega) hb, u2_ow, e, e8_app, (by omega : 96 + (T (p + k) - 96) = T (p + k))]
    rfl
theorem m_num (h : tpR T n C M) (d : Nat) {p : Nat} : ∀ k, k ≤ 4 → p + k ≤ n → (∀ j, p ≤ j → j < p + k → isD (T j)) → am_ev (d + 2) 164 200 [.ref 0, .int (nI p), .int 0, .int 1, .int 4, .int 0] [] (am_u2 M 0 6 0, J, tm_R, tm_S, 77, 21637) = am_ev (d + 2) 164 200 [.ref 0, .int (nI (p + k)), .int 0, .int 1, .int 4, .int (nI k)] [] (am_u2 M 0 6 (nI (nmF T p k)), J, tm_R, tm_S, 77, 21637) := by
  intro k
  induction k with
  | zero => intro _ _ _; rfl
  | succ k ih =>
    intro hk hp hL
    have hl := hL (p + k) (by omega) (by omega)
    have hb := nmF_b T p k (fun j a b => hL j a (by omega))
    have hb2 : 10 ^ k ≤ 10 ^ 3 := Nat.pow_le_pow_right (by omega) (by omega)
    have e3 : (10 : Int32) * nI (nmF T p k) + nI (T (p + k)) - 48 = nI (nmF T p (k + 1)) := by
      have e4 : (10 : Int32) * nI (nmF T p k) = nI (10 * nmF T p k) := nI_mul 10 _
      have e6 : nmF T p (k + 1) = 10 * nmF T p k + T (p + k) - 48 := by
        have : nmF T p (k + 1) = 10 * nmF T p k + (T (p + k) - 48) := rfl
        omega
      rw [e4, nI_add, e6]
      exact nI_sub (b := 48) (by omega) (by omega)
    rw [ih (by omega) (by omega) (fun j a b => hL j a (by omega)), m_dg (h.tf (TF.rf C) ((MF.rf M).u (by omega) (by omega) _)) d (by omega) hl (by omega), u2_s, e3, u2_ow]
    rfl
end TOKM
