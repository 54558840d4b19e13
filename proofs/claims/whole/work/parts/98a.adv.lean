/-! ADVANCE and AHEAD side by side -/
def mkk (k : Nat) : Nat := match k with
  | 1 => 0
  | 2 => 1
  | 3 => 1
  | 4 => 2
  | _ => 3
def tkR (n : Nat) (C M : tI) (J : tJ) (p q k v : Nat) (w : List Nat) : Prop := C 1 6 = nI p ∧ M 0 4 = nI p ∧ p ≤ q ∧ M 0 3 = nI (mkk k) ∧ (k = 1 → p = n) ∧ (k ≠ 1 → p < q) ∧ (k = 2 → C 1 5 = nI (e5 w) ∧ J 0 7 = Int64.ofNat (e8 w) ∧ wdOK w ∧ ¬ own w) ∧ (k = 3 → v < 32 ∧ C 1 5 = nI v ∧ J 0 7 = Int64.ofNat (e8 (ow v))) ∧ (k = 4 → v ≤ 9999 ∧ C 1 5 = nI v ∧ M 0 6 = nI v) ∧ (k = 5 → v ∈ sgs ∧ C 1 5 = nI v ∧ M 0 6 = nI v) ∧ (k = 0 → v ≤ 255 ∧ v ∉ sgs ∧ M 0 6 = nI v)
def prv (T : Nat → Nat) (q k : Nat) : Prop := (0 < q ∧ (isL (T (q - 1)) ∨ isD (T (q - 1)))) ↔ (k = 2 ∨ k = 3 ∨ k = 4)
def bas (T : Nat → Nat) (n : Nat) (C M : tI) : Prop := tpR T n C M ∧ C 1 7 = 0 ∧ M 0 8 = 0 ∧ C 1 8 = -1 ∧ M 0 9 = -1 ∧ rl_Ow C
def Pv (T : Nat → Nat) (n : Nat) (C M : tI) (q k : Nat) : Prop := bas T n C M ∧ q ≤ n ∧ C 1 4 = nI k ∧ k ≤ 5 ∧ C 1 3 = nI q ∧ M 0 5 = nI q ∧ prv T q k
def Gd (T : Nat → Nat) (n : Nat) (C M : tI) (J : tJ) (p q k v : Nat) (w : List Nat) : Prop := bas T n C M ∧ q ≤ n ∧ C 1 4 = nI k ∧ k ≤ 5 ∧ (k ≠ 0 → C 1 3 = nI q ∧ M 0 5 = nI q ∧ (k ≠ 1 → prv T q k)) ∧ tkR n C M J p q k v w
theorem Gd.pv {T : Nat → Nat} {n : Nat} {C M : tI} {J : tJ} {p q k v : Nat} {w : List Nat} (h : Gd T n C M J p q k v w) (hk : k ≠ 0) (hk1 : k ≠ 1) : Pv T n C M q k := ⟨h.1, h.2.1, h.2.2.1, h.2.2.2.1, (h.2.2.2.2.1 hk).1, (h.2.2.2.2.1 hk).2.1, (h.2.2.2.2.1 hk).2.2 hk1⟩
def Bd (C M : tI) : Prop := ∃ f p, 0 < f ∧ f ≤ 5 ∧ p ≤ 1600 ∧ M 0 8 = nI f ∧ M 0 9 = nI p ∧ C 1 4 = 0 ∧ ((C 1 7 = nI f ∧ C 1 8 = nI p) ∨ (C 1 7 = 0 ∧ f = 1 ∧ C 1 6 = nI p))
section ADV
variable {T : Nat → Nat} {n : Nat} {x : Bool} {C M : tI} {J Jc : tJ}
def Bs (C : tI) (p : Nat) : tI := am_u2 (am_u2 (am_u2 C 1 3 (nI p)) 1 6 (nI p)) 1 4 0
theorem Bs_3 (C : tI) (p : Nat) : Bs C p 1 3 = nI p := by unfold Bs; rw [u2_p (by omega), u2_p (by omega), u2_s]
theorem Bs_4 (C : tI) (p : Nat) : Bs C p 1 4 = 0 := by unfold Bs; rw [u2_s]
theorem Bs_6 (C : tI) (p : Nat) : Bs C p 1 6 = nI p := by unfold Bs; rw [u2_p (by omega), u2_s]
theorem Bs_o (C : tI) (p : Nat) {b : Nat} (h : b ≠ 3) (h2 : b ≠ 6) (h3 : b ≠ 4) : Bs C p 1 b = C 1 b := by unfold Bs; rw [u2_p h3, u2_p h2, u2_p h]
theorem Bs_f (C : tI) (p : Nat) : TF C (Bs C p) := (((TF.rf C).u (by omega) _).u (by omega) _).u (by omega) _
abbrev ap (q0 p k : Nat) : Prop := q0 < p ∨ ¬ (k = 2 ∨ k = 3 ∨ k = 4)
theorem c_adv97 (h : tpR T n C M) {q0 k p : Nat} (h3 : C 1 3 = nI q0) (h4 : C 1 4 = nI k) (hk : k ≤ 5) (hs : scR isB T n q0 p) (d : Nat) : am_G (am_ev (d + 1)) 76 [.ref 1] (C, Jc, (tc_R x), tc_S, 289, 11479) = am_ev (d + 1) 76 97 [.ref 1, .int (nI p), .int (am_b (ap q0 p k)), am_un] [.int (if p < n then nI (T p) else -1)] (C, Jc, (tc_R x), tc_S, 289, 11479) := by
  have hp1 := hs.1
  have hp2 := hs.2.1
  have hn := h.2.2.1
  have e78 : ∀ s : Int32, am_ev (d + 1) 76 78 [.ref 1, .int (nI p), am_un, am_un] [.int s] (C, Jc, (tc_R x), tc_S, 289, 11479) = am_ev (d + 1) 76 97 [.ref 1, .int (nI p), .int s, am_un] [.int (if p < n then nI (T p) else -1)] (C, Jc, (tc_R x), tc_S, 289, 11479) := by
    intro s
    rw [b76_78, h.1]
    by_cases q : p < n
    · have hc : Int32.toNatClampNeg (nI p) = p := nI_clamp (by omega)
      (rw [if_neg (nI_ge q (by omega)), if_pos (nI_in (by omega) (by omega))]; (try simp only [hc]); rw [(h.2.2.2 p q).1, if_pos q])
    · rw [if_pos (nI_le (by omega) (by omega)), if_neg q]
  rw [b76_0, h3, c_skip h d _ _ (p - q0) q0 p (by omega) hs, b76_41, h3]
  by_cases q : q0 < p
  · rw [if_pos (nI_lt q (by omega)), b76_73, e78, am_b1 (Or.inl q)]
  · rw [if_neg (nI_nlt (by omega) (by omega)), h4]
    have hc2 : nI k = 2 ↔ k = 2 := nI_eq (b := 2) (by omega) (by omega)
    have hc3 : nI k = 3 ↔ k = 3 := nI_eq (b := 3) (by omega) (by omega)
    have hc4 : nI k = 4 ↔ k = 4 := nI_eq (b := 4) (by omega) (by omega)
    by_cases k2 : k = 2
    · rw [if_pos (hc2.mpr k2), b76_77, e78, am_b0 (fun z => z.elim q (fun y => y (Or.inl k2)))]
    · rw [if_neg (fun z => k2 (hc2.mp z))]
      by_cases k3 : k = 3
      · rw [if_pos (hc3.mpr k3), b76_77, e78, am_b0 (fun z => z.elim q (fun y => y (Or.inr (Or.inl k3))))]
      · rw [if_neg (fun z => k3 (hc3.mp z))]
        by_cases k4 : k = 4
        · rw [if_pos (hc4.mpr k4), b76_77, e78, am_b0 (fun z => z.elim q (fun y => y (Or.inr (Or.inr k4))))]
        · rw [if_neg (fun z => k4 (hc4.mp z)), b76_73, e78, am_b1 (Or.inr (by omega))]
theorem sg_ix : ∀ c, c < 256 → ((am_ixF (Int32.toUInt32 (nI c) % 65536).toInt32 (am_txt 1) 0) < 0 ↔ c ∉ sgs) := by decide +kernel
theorem c_end (d : Nat) (p : Nat) (s : Int32) : am_ev (d + 1) 76 97 [.ref 1, .int (nI p), .int s, am_un] [.int (-1)] (C, Jc, (tc_R x), tc_S, 289, 11479) = some (none, (am_u2 (Bs C p) 1 4 1, Jc, (tc_R x), tc_S, 289, 11479)) := by
  rw [b76_97, if_pos rfl]; rfl
theorem c_97L (d : Nat) {p c : Nat} (hc : isL c) (s : Int32) : am_ev (d + 1) 76 97 [.ref 1, .int (nI p), .int s, am_un] [.int (nI c)] (C, Jc, (tc_R x), tc_S, 289, 11479) = if s = 0 then some (none, (Bs C p, Jc, (tc_R x), tc_S, 289, 11479)) else am_call (am_G (am_ev d) 77 [.ref 1] (Bs C p, Jc, (tc_R x), tc_S, 289, 11479)) (fun r M => am_ev (d + 1) 76 146 [.ref 1, .int (nI p), .int s, .int (nI c)] (r.toList ++ []) M) := by
  rw [b76_97, if_neg (nI_ne (by omega)), if_neg (nltR (c := 97) 97 rfl (by omega) (by omega)), if_neg (nltL (c := 122) 122 rfl (by omega) (by omega))]; rfl
theorem c_97O (d : Nat) {p c : Nat} (hc : ¬ isL c) (hb : c ≤ 255) (s : Int32) : am_ev (d + 1) 76 97 [.ref 1, .int (nI p), .int s, am_un] [.int (nI c)] (C, Jc, (tc_R x), tc_S, 289, 11479) = am_ev (d + 1) 76 149 [.ref 1, .int (nI p), .int s, .int (nI c)] [] (Bs C p, Jc, (tc_R x), tc_S, 289, 11479) := by
  rw [b76_97, if_neg (nI_ne (by omega))]
  by_cases q : c < 97
  · rw [if_pos (ltR (c := 97) 97 rfl q (by omega))]; rfl
  · have q2 : 122 < c := by unfold isL at hc; omega
    rw [if_neg (nltR (c := 97) 97 rfl (by omega) (by omega)), if_pos (ltL (c := 122) 122 rfl q2 (by omega))]; rfl
theorem c_97D (d : Nat) {p c : Nat} (hc : isD c) (s : Int32) : am_ev (d + 1) 76 149 [.ref 1, .int (nI p), .int s, .int (nI c)] [] (C, Jc, (tc_R x), tc_S, 289, 11479) = if s = 0 then some (none, (C, Jc, (tc_R x), tc_S, 289, 11479)) else am_call (am_G (am_ev d) 78 [.ref 1] (C, Jc, (tc_R x), tc_S, 289, 11479)) (fun r M => am_ev (d + 1) 76 169 [.ref 1, .int (nI p), .int s, .int (nI c)] (r.toList ++ []) M) := by
  rw [b76_149, if_neg (nltR (c := 48) 48 rfl (by omega) (by omega)), if_neg (nltL (c := 57) 57 rfl (by omega) (by omega))]
theorem c_97S (d : Nat) {p c : Nat} (hc : ¬ isD c) (hb : c ≤ 255) (s : Int32) : am_ev (d + 1) 76 149 [.ref 1, .int (nI p), .int s, .int (nI c)] [] (C, Jc, (tc_R x), tc_S, 289, 11479) = if c ∉ sgs then some (none, (C, Jc, (tc_R x), tc_S, 289, 11479)) else some (none, (am_u2 (am_u2 (am_u2 C 1 4 5) 1 5 (nI c)) 1 3 (nI (p + 1)), Jc, (tc_R x), tc_S, 289, 11479)) := by
  have e : am_ev (d + 1) 76 149 [.ref 1, .int (nI p), .int s, .int (nI c)] [] (C, Jc, (tc_R x), tc_S, 289, 11479) = am_ev (d + 1) 76 172 [.ref 1, .int (nI p), .int s, .int (nI c)] [] (C, Jc, (tc_R x), tc_S, 289, 11479) := by
    rw [b76_149]
    by_cases q : c < 48
    · rw [if_pos (ltR (c := 48) 48 rfl q (by omega))]
    · have q2 : 57 < c := by unfold isD at hc; omega
      rw [if_neg (nltR (c := 48) 48 rfl (by omega) (by omega)), if_pos (ltL (c := 57) 57 rfl q2 (by omega))]
  rw [e, b76_172]
  have hs := sg_ix c (by omega)
  by_cases q : c ∉ sgs
  · rw [if_pos q, if_pos (hs.mpr q)]
  · rw [if_neg q, if_neg (fun z => q (hs.mp z)), nI_1]
/-! the model's ahead up to the loop -/
def Bm (M : tI) (p : Nat) : tI := am_u2 (am_u2 (am_u2 M 0 4 (nI p)) 0 5 (nI p)) 0 3 0
theorem Bm_f (M : tI) (p : Nat) : MF M (Bm M p) := (((MF.rf M).u (by omega) (by omega) _).u (by omega) (by omega) _).u (by omega) (by omega) _
def Wm (M : tI) (p : Nat) (s : Int32) : tI := am_u2 (am_u2 (am_u2 (am_u2 M 0 6 0) 0 3 3) 0 5 (nI p + 1)) 0 3 s
theorem Wm_f (M : tI) (p : Nat) (s : Int32) : MF M (Wm M p s) := ((((MF.rf M).u (by omega) (by omega) _).u (by omega) (by omega) _).u (by omega) (by omega) _).u (by omega) (by omega) _
def Fm (M : tI) (p : Nat) : tI := am_u2 (am_u2 M 0 8 1) 0 9 (nI p)
theorem Fm_f (M : tI) (p : Nat) : MF M (Fm M p) := ((MF.rf M).u (by omega) (by omega) _).u (by omega) (by omega) _
theorem m_aend (h : tpR T n C M) {q0 : Nat} (h5 : M 0 5 = nI q0) (hs : scR isB T n q0 n) (d : Nat) : am_G (am_ev (d + 1)) 164 [.ref 0] (M, J, tm_R, tm_S, 77, 21637) = some (none, (Bm M n, J, tm_R, tm_S, 77, 21637)) := by
  have hn := h.2.2.1
  have hp1 := hs.1
  rw [b164_0, h5, m_skip h d _ _ _ _ (n - q0) q0 n (by omega) hs, b164_41, h.2.1, if_neg (nI_nlt (Nat.le_refl _) (by omega))]; rfl
theorem m_a84 (h : tpR T n C M) {q0 p : Nat} (h5 : M 0 5 = nI q0) (hs : scR isB T n q0 p) (hp : p < n) (d : Nat) : am_G (am_ev (d + 2)) 164 [.ref 0] (M, J, tm_R, tm_S, 77, 21637) = am_ev (d + 2) 164 84 [.ref 0, .int (nI p), .int (am_b (isL (T p))), am_un, am_un, am_un] [.int (am_b (isD (T p)))] (Bm M p, J, tm_R, tm_S, 77, 21637) := by
  have hn := h.2.2.1
  have hp1 := hs.1
  have hc : Int32.toNatClampNeg (nI p) = p := nI_clamp (by omega)
  have hi : am_in (nI p) 1800 := nI_in (by omega) (by omega)
  obtain ⟨t1, t2, t3⟩ := h.2.2.2 p hp
  have t4 : Bm M p 1 p = nI (T p) := by rw [Bm_f M p 1 p (by omega), t2]
  (rw [b164_0, h5, m_skip h (d + 1) _ _ _ _ (p - q0) q0 p (by omega) hs, b164_41, h.2.1, if_pos (nI_lt hp (by omega)), if_pos hi]; (try simp only [hc]); rw [t2])
  refine (congrArg (fun z => am_call z _) (m_isL d (Bm M p) J t3)).trans ?_
  (rw [am_call_s, am_toL, b164_74, if_pos hi]; (try simp only [hc]); rw [t4, m_isD _ _ _ t3, am_call_s, am_toL])
theorem m_131 (d : Nat) (I : tI) (J : tJ) (p : Nat) (v4 v5 : Value) (x2 x3 : Int32) (hx : (x2 = 1 ∧ x3 = 0) ∨ (x2 = 0 ∧ x3 = 1)) : am_ev (d + 1) 164 131 [.ref 0, .int (nI p), .int x2, .int x3, v4, v5] [] (I, J, tm_R, tm_S, 77, 21637) = am_ev (d + 1) 164 200 [.ref 0, .int (nI p), .int x2, .int x3, .int (if x2 = 0 then 4 else 6), .int 0] [] (Wm I p (if x2 = 0 then 2 else 1), am_u2 J 0 7 0, tm_R, tm_S, 77, 21637) := by
  rcases hx with ⟨rfl, rfl⟩ | ⟨rfl, rfl⟩
  · rw [b164_131, if_neg (by decide : ¬ (1 : Int32) = 0), b164_172, if_neg (by decide : ¬ (1 : Int32) = 0), b164_182, if_neg (by decide : ¬ (1 : Int32) = 0), if_neg (by decide : ¬ (1 : Int32) = 0), if_neg (by decide : ¬ (1 : Int32) = 0)]; rfl
  · rw [b164_131, if_pos rfl, if_neg (by decide : ¬ (1 : Int32) = 0), b164_172, if_pos rfl, b164_182, if_pos rfl, if_pos rfl, if_pos rfl]; rfl
theorem m_93 (h : tpR T n C M) (h8 : M 0 8 = 0) {p : Nat} (hp : p ≤ n) (d : Nat) (x2 x3 : Int32) (v4 v5 : Value) : am_ev (d + 2) 164 93 [.ref 0, .int (nI p), .int x2, .int x3, v4, v5] [] (M, J, tm_R, tm_S, 77, 21637) = am_ev (d + 2) 164 131 [.ref 0, .int (nI p), .int x2, .int x3, v4, v5] [] (if 0 < p ∧ (isL (T (p - 1)) ∨ isD (T (p - 1))) then Fm M p else M, J, tm_R, tm_S, 77, 21637) := by
  have hn := h.2.2.1
  rw [b164_93]
  by_cases h0 : 0 < p
  · have e : nI p - 1 = nI (p - 1) := nI_m1 p h0
    have hi : am_in (nI (p - 1)) 1800 := nI_in (by omega) (by omega)
    have hc : Int32.toNatClampNeg (nI (p - 1)) = p - 1 := nI_clamp (by omega)
    obtain ⟨t1, t2, t3⟩ := h.2.2.2 (p - 1) (by omega)
    (rw [if_neg (nI_nle h0 (by omega)), e, if_pos hi]; (try simp only [hc]); rw [t2, m_isL _ _ _ t3, am_call_s, am_toL, b164_108])
    by_cases hL : isL (T (p - 1))
    · rw [am_b1 hL, if_neg (by decide : ¬ (1 : Int32) = 0), m_bl0 _ _ _ h8, am_call_s, am_toN, if_pos ⟨h0, Or.inl hL⟩]; rfl
    · (rw [am_b0 hL, if_pos rfl, e, if_pos hi]; (try simp only [hc]); rw [t2, m_isD _ _ _ t3, am_call_s, am_toL, b164_122])
      by_cases hD : isD (T (p - 1))
      · rw [am_b1 hD, if_neg (by decide : ¬ (1 : Int32) = 0), m_bl0 _ _ _ h8, am_call_s, am_toN, if_pos ⟨h0, Or.inr hD⟩]; rfl
      · rw [am_b0 hD, if_pos rfl, if_neg (fun q => q.2.elim hL hD)]
  · obtain rfl : p = 0 := by omega
    rw [if_pos (by decide : nI 0 ≤ 0), if_neg (fun q => absurd q.1 (by omega))]
end ADV
