/-! spread, turn -/
section WAV
variable {x : Bool} {C M : tI} {J Jc : tJ}
def wvS (M : tI) (t r i : Nat) : Int32 := M 63 (8 * t + i) + M 63 (480 + (i + r) % 8)
def wvL (M : tI) (t r : Nat) : Nat → Int32
  | 0 => 511
  | i + 1 => if wvL M t r i ≤ wvS M t r i then wvL M t r i else wvS M t r i
def wvH (M : tI) (t r : Nat) : Nat → Int32
  | 0 => 0
  | i + 1 => if wvS M t r i ≤ wvH M t r i then wvH M t r i else wvS M t r i
theorem wvL_s (M : tI) (t r i : Nat) : wvL M t r (i + 1) = if wvL M t r i ≤ wvS M t r i then wvL M t r i else wvS M t r i := rfl
theorem wvH_s (M : tI) (t r i : Nat) : wvH M t r (i + 1) = if wvS M t r i ≤ wvH M t r i then wvH M t r i else wvS M t r i := rfl
def spS (M : tI) (t r : Nat) : Int32 := wvH M t r 8 - wvL M t r 8
theorem Rl.wvB (h : Rl x C M J) {t i : Nat} (ht : t < 60) (hi : i < 8) (r : Nat) : bd (wvS M t r i) 510 := by
  obtain ⟨v1, _, v3⟩ := h.V
  obtain ⟨a, ha, ea⟩ := (v3 t i ht hi).1
  obtain ⟨b, hb, eb⟩ := (v1 ((i + r) % 8) (Nat.mod_lt _ (by omega))).2
  unfold wvS
  rw [ea, eb, nI_add]
  exact bd_nI (by omega)
theorem Rl.wv1 (h : Rl x C M J) {t : Nat} (ht : t < 60) (r : Nat) : wvL M t r 1 = wvS M t r 0 ∧ wvH M t r 1 = wvS M t r 0 := by
  obtain ⟨k, hk, ek⟩ := h.wvB ht (show 0 < 8 by omega) r
  rw [wvL_s, wvH_s]
  have e1 : wvL M t r 0 = nI 511 := rfl
  have e2 : wvH M t r 0 = nI 0 := rfl
  rw [e1, e2, ek]
  refine ⟨if_neg (nI_ge (by omega) (by omega)), ?_⟩
  by_cases q : nI k ≤ nI 0
  · rw [if_pos q]
    rw [nI_leI (by omega) (by omega)] at q
    rw [show k = 0 by omega]
  · rw [if_neg q]
theorem Rl.spM (h : Rl x C M J) {t r : Nat} (ht : t < 60) (hr : r < 8) (d : Nat) : am_G (am_ev (d + 1)) 275 [.ref 0, .int (nI t), .int (nI r)] (M, J, tm_R, tm_S, 77, 21637) = some (some (.int (spS M t r)), (M, J, tm_R, tm_S, 77, 21637)) := by
  have run : ∀ i, i ≤ 8 → ∃ v, am_ev (d + 1) 275 10 [.ref 0, .int (nI t), .int (nI r), .int 511, .int 0, .int (nI 0), am_un] [] (M, J, tm_R, tm_S, 77, 21637) = am_ev (d + 1) 275 10 [.ref 0, .int (nI t), .int (nI r), .int (wvL M t r i), .int (wvH M t r i), .int (nI i), v] [] (M, J, tm_R, tm_S, 77, 21637) := by
    intro i
    induction i with
    | zero => intro _; exact ⟨am_un, rfl⟩
    | succ i ih =>
      intro hi
      obtain ⟨v, e⟩ := ih (by omega)
      have e8 : (8 : Int32) * nI t + nI i = nI (8 * t + i) := nI_ix 8 t i
      have em : nI i + nI r - (nI i + nI r) / 8 * 8 = nI ((i + r) % 8) := by rw [nI_add]; exact nI_rem (b := 8) (by omega) (by omega) (by omega)
      have e4 : (480 : Int32) + nI ((i + r) % 8) = nI (480 + (i + r) % 8) := nI_add 480 _
      have m8 := Nat.mod_lt (i + r) (show 0 < 8 by omega)
      have c1 : (nI (8 * t + i)).toNatClampNeg = 8 * t + i := nI_clamp (by omega)
      have c2 : (nI (480 + (i + r) % 8)).toNatClampNeg = 480 + (i + r) % 8 := nI_clamp (by omega)
      have es : M 63 (8 * t + i) + M 63 (480 + (i + r) % 8) = wvS M t r i := rfl
      rw [e, b275_10, if_neg (show ¬ (8 : Int32) ≤ nI i from nI_ge (b := 8) (by omega) (by omega)), em, e4, e8, if_pos (nI_in (by omega) (by omega)), if_pos (nI_in (by omega) (by omega))]
      simp only [c1, c2, es]
      rw [wvL_s, wvH_s]
      by_cases q : wvL M t r i ≤ wvS M t r i
      · rw [if_pos q, if_pos q, b275_60, nI_1]
        by_cases q2 : wvS M t r i ≤ wvH M t r i
        · rw [if_pos q2, if_pos q2]; exact ⟨_, rfl⟩
        · rw [if_neg q2, if_neg q2]; exact ⟨_, rfl⟩
      · rw [if_neg q, if_neg q, b275_60, nI_1]
        by_cases q2 : wvS M t r i ≤ wvH M t r i
        · rw [if_pos q2, if_pos q2]; exact ⟨_, rfl⟩
        · rw [if_neg q2, if_neg q2]; exact ⟨_, rfl⟩
  obtain ⟨v, e⟩ := run 8 (Nat.le_refl _)
  rw [b275_0]
  refine e.trans ?_
  rw [b275_10, if_pos (show (8 : Int32) ≤ nI 8 from Int32.le_refl _)]
  rfl
theorem Rl.spC (h : Rl x C M J) {t r : Nat} (ht : t < Int32.toNatClampNeg (M 0 74)) (hr : r < 8) (d : Nat) : am_G (am_ev (d + 2)) 147 [.ref 0, .ref (150 + 2 * t + 1), .int (nI r)] (C, Jc, (tc_R x), tc_S, 289, 11479) = some (some (.int (spS M t r)), (C, Jc, (tc_R x), tc_S, 289, 11479)) := by
  have nt := h.ntB.cl (by omega)
  have t60 : t < 60 := by omega
  obtain ⟨v1, v2, v3⟩ := h.V
  have hw := ts_w t t60
  have k20 : (tc_S (150 + 2 * t + 1)).1 = 20 ∧ 150 + 2 * t + 1 < 289 := ⟨by rw [hw], by omega⟩
  have s2 : (tc_S (150 + 2 * t + 1)).2 = 8 := by rw [hw]
  have c0 : Int32.toNatClampNeg 0 = 0 := rfl
  have cr : (nI r).toNatClampNeg = r := nI_clamp (by omega)
  obtain ⟨w1, w2⟩ := h.wv1 t60 r
  have run : ∀ i, i ≤ 7 → ∃ v, am_ev (d + 2) 147 17 [.ref 0, .ref (150 + 2 * t + 1), .int (nI r), .int (wvL M t r 1), .int (wvH M t r 1), .int (nI 1), am_un] [] (C, Jc, (tc_R x), tc_S, 289, 11479) = am_ev (d + 2) 147 17 [.ref 0, .ref (150 + 2 * t + 1), .int (nI r), .int (wvL M t r (i + 1)), .int (wvH M t r (i + 1)), .int (nI (i + 1)), v] [] (C, Jc, (tc_R x), tc_S, 289, 11479) := by
    intro i
    induction i with
    | zero => intro _; exact ⟨am_un, rfl⟩
    | succ i ih =>
      intro hi
      obtain ⟨v, e⟩ := ih (by omega)
      have em : nI (i + 1) + nI r - (nI (i + 1) + nI r) / 8 * 8 = nI ((i + 1 + r) % 8) := by rw [nI_add]; exact nI_rem (b := 8) (by omega) (by omega) (by omega)
      have m8 := Nat.mod_lt (i + 1 + r) (show 0 < 8 by omega)
      have c1 : (nI (i + 1)).toNatClampNeg = i + 1 := nI_clamp (by omega)
      have c2 : (nI ((i + 1 + r) % 8)).toNatClampNeg = (i + 1 + r) % 8 := nI_clamp (by omega)
      have es : C (150 + 2 * t + 1) (i + 1) + C 286 ((i + 1 + r) % 8) = wvS M t r (i + 1) := by rw [v2 t _ ht (by omega), (v1 _ m8).1]; rfl
      rw [e, b147_17, if_neg (show ¬ (8 : Int32) ≤ nI (i + 1) from nI_ge (b := 8) (by omega) (by omega)), if_pos k20, s2, if_pos (nI_in (by omega) (by omega)), em, if_pos (nI_in m8 (by omega))]
      simp only [c1, c2, es]
      rw [b290_0, wvL_s M t r (i + 1), wvH_s M t r (i + 1)]
      by_cases q : wvL M t r (i + 1) ≤ wvS M t r (i + 1)
      · rw [if_neg (Int32.not_lt.mpr q), if_pos q, am_call_s, am_toL, b147_49, b288_0]
        by_cases q2 : wvS M t r (i + 1) ≤ wvH M t r (i + 1)
        · rw [if_neg (Int32.not_lt.mpr q2), if_pos q2, am_call_s, am_toL, b147_57, nI_1]; exact ⟨_, rfl⟩
        · rw [if_pos (Int32.not_le.mp q2), if_neg q2, am_call_s, am_toL, b147_57, nI_1]; exact ⟨_, rfl⟩
      · rw [if_pos (Int32.not_le.mp q), if_neg q, am_call_s, am_toL, b147_49, b288_0]
        by_cases q2 : wvS M t r (i + 1) ≤ wvH M t r (i + 1)
        · rw [if_neg (Int32.not_lt.mpr q2), if_pos q2, am_call_s, am_toL, b147_57, nI_1]; exact ⟨_, rfl⟩
        · rw [if_pos (Int32.not_le.mp q2), if_neg q2, am_call_s, am_toL, b147_57, nI_1]; exact ⟨_, rfl⟩
  obtain ⟨v, e⟩ := run 7 (Nat.le_refl _)
  have e0 : C (150 + 2 * t + 1) 0 + C 286 r = wvS M t r 0 := by
    rw [v2 t 0 ht (by omega), (v1 r hr).1]
    unfold wvS
    rw [Nat.zero_add, Nat.mod_eq_of_lt hr, Nat.add_zero]
  rw [b147_0, if_pos k20, s2, if_pos (by decide : am_in (0 : Int32) 8), if_pos (nI_in hr (by omega))]
  simp only [c0, cr, e0]
  rw [w1, w2] at e
  refine Eq.trans e ?_
  rw [b147_17, if_pos (show (8 : Int32) ≤ nI (7 + 1) from Int32.le_refl _)]
  rfl
/-- the best turn -/
def btT (M : tI) (t : Nat) : Nat → Nat
  | 0 => 0
  | r + 1 => if spS M t (btT M t r) ≤ spS M t (r + 1) then btT M t r else r + 1
theorem btT_s (M : tI) (t r : Nat) : btT M t (r + 1) = if spS M t (btT M t r) ≤ spS M t (r + 1) then btT M t r else r + 1 := rfl
theorem btT_le (M : tI) (t : Nat) : ∀ r, btT M t r ≤ r := by
  intro r
  induction r with
  | zero => exact Nat.le_refl _
  | succ r ih => rw [btT_s]; split <;> omega
theorem Rl.btM (h : Rl x C M J) {t : Nat} (ht : t < 60) (d : Nat) : am_G (am_ev (d + 2)) 276 [.ref 0, .int (nI t)] (M, J, tm_R, tm_S, 77, 21637) = some (some (.int (nI (btT M t 7))), (M, J, tm_R, tm_S, 77, 21637)) := by
  have run : ∀ r, r ≤ 7 → am_ev (d + 2) 276 4 [.ref 0, .int (nI t), .int (nI 0), .int (nI 1)] [] (M, J, tm_R, tm_S, 77, 21637) = am_ev (d + 2) 276 4 [.ref 0, .int (nI t), .int (nI (btT M t r)), .int (nI (r + 1))] [] (M, J, tm_R, tm_S, 77, 21637) := by
    intro r
    induction r with
    | zero => intro _; rfl
    | succ r ih =>
      intro hr
      have b := btT_le M t r
      rw [ih (by omega), b276_4, if_neg (show ¬ (8 : Int32) ≤ nI (r + 1) from nI_ge (b := 8) (by omega) (by omega)), h.spM ht (by omega), am_call_s, am_toL, b276_16, h.spM ht (by omega), am_call_s, am_toL, b276_22, btT_s, nI_1]
      by_cases q : spS M t (btT M t r) ≤ spS M t (r + 1)
      · rw [if_pos q, if_pos q]
      · rw [if_neg q, if_neg q]
  rw [b276_0]
  refine Eq.trans (run 7 (Nat.le_refl _)) ?_
  rw [b276_4, if_pos (show (8 : Int32) ≤ nI (7 + 1) from Int32.le_refl _)]
theorem Rl.btC (h : Rl x C M J) {t : Nat} (ht : t < Int32.toNatClampNeg (M 0 74)) (d : Nat) : am_G (am_ev (d + 3)) 149 [.ref 0, .ref (150 + 2 * t + 1)] (C, Jc, (tc_R x), tc_S, 289, 11479) = some (some (.int (nI (btT M t 7))), (C, Jc, (tc_R x), tc_S, 289, 11479)) := by
  have run : ∀ r, r ≤ 7 → ∃ v, am_ev (d + 3) 149 12 [.ref 0, .ref (150 + 2 * t + 1), .int (nI 0), .int (spS M t 0), .int (nI 1), am_un] [] (C, Jc, (tc_R x), tc_S, 289, 11479) = am_ev (d + 3) 149 12 [.ref 0, .ref (150 + 2 * t + 1), .int (nI (btT M t r)), .int (spS M t (btT M t r)), .int (nI (r + 1)), v] [] (C, Jc, (tc_R x), tc_S, 289, 11479) := by
    intro r
    induction r with
    | zero => intro _; exact ⟨_, rfl⟩
    | succ r ih =>
      intro hr
      obtain ⟨v, e⟩ := ih (by omega)
      have b := btT_le M t r
      rw [e, b149_12, if_neg (show ¬ (8 : Int32) ≤ nI (r + 1) from nI_ge (b := 8) (by omega) (by omega)), h.spC ht (by omega), am_call_s, am_toL, b149_26, btT_s, nI_1]
      by_cases q : spS M t (btT M t r) ≤ spS M t (r + 1)
      · rw [if_pos q, if_pos q]; exact ⟨_, rfl⟩
      · rw [if_neg q, if_neg q]; exact ⟨_, rfl⟩
  obtain ⟨v, e⟩ := run 7 (Nat.le_refl _)
  have s0 := h.spC (Jc := Jc) ht (r := 0) (by omega) d
  rw [b149_0]
  refine Eq.trans (congrArg (fun z => am_call z _) s0) ?_
  rw [am_call_s, am_toL, b149_8]
  refine Eq.trans e ?_
  rw [b149_12, if_pos (show (8 : Int32) ≤ nI (7 + 1) from Int32.le_refl _)]
theorem k_spread (h : Rl x C M J) (a r : Int32) : Lk 146 277 [.int a, .int r] x C M Jc J := by
  rcases h.ty (Jc := Jc) a 98 97 with ⟨e1, e2⟩ | ⟨t, ht, rfl, h60, e1, e2⟩
  · exact ⟨-1, x, C, M, J, by rw [b146_0, e1, am_call_s, am_toL, b146_8, if_pos rfl], by rw [b277_0, e2, am_call_s, am_toL, b277_5, if_pos rfl], h⟩
  · have f1 := Eq.refl (am_G (am_ev 100) 146 [.ref 0, .int (nI t), .int r] (C, Jc, (tc_R x), tc_S, 289, 11479))
    conv at f1 => rhs; rw [b146_0, e1, am_call_s, am_toL, b146_8, if_neg (by decide : ¬ (1 : Int32) = 0)]
    have f2 := Eq.refl (am_G (am_ev 100) 277 [.ref 0, .int (nI t), .int r] (M, J, tm_R, tm_S, 77, 21637))
    conv at f2 => rhs; rw [b277_0, e2, am_call_s, am_toL, b277_5, if_neg (by decide : ¬ (1 : Int32) = 0)]
    have e7 : nI 8 - 1 = (7 : Int32) := by decide +kernel
    rcases i_cases r (n := 8) (by omega) with w | ⟨k, hk, rfl⟩
    · refine ⟨-1, x, C, M, J, ?_, by rw [f2, m_is0 _ _ _ (e7 ▸ nin (n := 8) (by omega) w), am_call_s, am_toL, b277_15, if_pos rfl], h⟩
      rw [f1]
      by_cases h0 : r < 0
      · rw [if_pos h0]
      · rw [if_neg h0, if_neg (show ¬ r < 8 from Int32.not_lt.mpr (w.resolve_left h0))]
    · refine ⟨spS M t k, x, C, M, J, ?_, by rw [f2, m_is1 _ _ _ (e7 ▸ (is_in (nI k) (n := 8) (by omega)).mpr ⟨k, hk, rfl⟩), am_call_s, am_toL, b277_15, if_neg (by decide : ¬ (1 : Int32) = 0), h.spM h60 hk, am_call_s, am_toL, b277_24], h⟩
      have ct : (nI t).toNatClampNeg = t := nI_clamp (by omega)
      rw [f1, if_neg (nI_pos (by omega)), if_pos (show nI k < 8 from nI_lt (b := 8) hk (by omega)), if_pos (nI_in h60 (by omega))]
      simp only [ct]
      rw [if_pos (tt_k h60), tr_w x t h60]
      refine (b146_36 99 C Jc x (.int (nI t)) (nI k) (150 + 2 * t + 1)).trans ?_
      rw [h.spC ht hk, am_call_s, am_toL, b146_40]
theorem k_turn (h : Rl x C M J) (a : Int32) : Lk 148 278 [.int a] x C M Jc J := by
  rcases h.ty (Jc := Jc) a 98 97 with ⟨e1, e2⟩ | ⟨t, ht, rfl, h60, e1, e2⟩
  · exact ⟨-1, x, C, M, J, by rw [b148_0, e1, am_call_s, am_toL, b148_8, if_pos rfl], by rw [b278_0, e2, am_call_s, am_toL, b278_5, if_pos rfl], h⟩
  · refine ⟨nI (btT M t 7), x, C, M, J, ?_, by rw [b278_0, e2, am_call_s, am_toL, b278_5, if_neg (by decide : ¬ (1 : Int32) = 0), h.btM h60, am_call_s, am_toL, b278_13], h⟩
    have ct : (nI t).toNatClampNeg = t := nI_clamp (by omega)
    rw [b148_0, e1, am_call_s, am_toL, b148_8, if_neg (by decide : ¬ (1 : Int32) = 0), if_pos (nI_in h60 (by omega))]
    simp only [ct]
    rw [if_pos (tt_k h60), tr_w x t h60]
    refine (b148_24 99 C Jc x (.int (nI t)) (150 + 2 * t + 1)).trans ?_
    rw [h.btC ht, am_call_s, am_toL, b148_27]
end WAV
