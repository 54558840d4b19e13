/-! BEGIN of a statement, frames of reading -/
def RC (y : Bool) (C C' : tI) : Prop := ∀ a b, ¬ (a = 1 ∧ 3 ≤ b) → ¬ (tc_P y ≤ a ∧ a ≤ tc_P y + 36) → C' a b = C a b
def RM (y : Bool) (M M' : tI) : Prop := ∀ a j, ¬ (a = 0 ∧ ((3 ≤ j ∧ j ≤ 9) ∨ j = 50 ∨ (57 ≤ j ∧ j ≤ 61))) → ¬ (2 ≤ a ∧ a ≤ 38 ∧ sdd a * xb y ≤ j ∧ j < sdd a * xb y + sdd a) → ¬ (39 ≤ a ∧ a ≤ 44) → M' a j = M a j
def RJ (y : Bool) (J J' : tJ) : Prop := ∀ a j, ¬ (a = 0 ∧ j = 7) → ¬ (3 ≤ a ∧ a ≤ 23 ∧ sdd a * xb y ≤ j ∧ j < sdd a * xb y + sdd a) → J' a j = J a j
theorem fr1J {C : tJ} {k1 j1 a b : Nat} {v1 : Int64} (h1 : a ≠ k1 ∨ b ≠ j1) : am_u2 C k1 j1 v1 a b = C a b := by
  unfold am_u2
  rw [if_neg (by omega)]
section BEG
variable {T : Nat → Nat} {n lo p q k v la lb : Nat} {w : List Nat} {x y : Bool} {C M C' M' : tI} {J J' Jc : tJ} {N : Nat → Nat}
theorem RC.rf : RC y C C := fun _ _ _ _ => rfl
theorem RM.rf : RM y M M := fun _ _ _ _ _ => rfl
theorem RJ.rf : RJ y J J := fun _ _ _ _ => rfl
theorem RC.tr {C2 : tI} (h : RC y C C') (h2 : RC y C' C2) : RC y C C2 := fun a b z1 z2 => (h2 a b z1 z2).trans (h a b z1 z2)
theorem RM.tr {M2 : tI} (h : RM y M M') (h2 : RM y M' M2) : RM y M M2 := fun a b z1 z2 z3 => (h2 a b z1 z2 z3).trans (h a b z1 z2 z3)
theorem RJ.tr {J2 : tJ} (h : RJ y J J') (h2 : RJ y J' J2) : RJ y J J2 := fun a b z1 z2 => (h2 a b z1 z2).trans (h a b z1 z2)
theorem TF.rc (h : TF C C') : RC y C C' := fun a b z1 _ => h a b (fun e => by omega)
theorem MF.rm (h : MF M M') : RM y M M' := fun a j z1 _ _ => h a j (fun e => by omega)
theorem JF.rj (h : JF J J') : RJ y J J' := fun a j z1 _ => h a j (fun e => by omega)
theorem RC.u (h : RC y C C') {o k : Nat} (ho : o ≤ 36) (u : Int32) : RC y C (am_u2 C' (tc_P y + o) k u) := fun a b z1 z2 => by
  rw [u2_c (by omega)]; exact h a b z1 z2
theorem RM.u (h : RM y M M') {c i : Nat} (hc : 2 ≤ c) (hc2 : c ≤ 38) (h1 : sdd c * xb y ≤ i) (h2 : i < sdd c * xb y + sdd c) (u : Int32) : RM y M (am_u2 M' c i u) := fun a j z1 z2 z3 => by
  by_cases e : a = c ∧ j = i
  · exact absurd ⟨by omega, by omega, by rw [e.1, e.2]; exact h1, by rw [e.1, e.2]; exact h2⟩ z2
  · rw [fr1 (by omega)]; exact h a j z1 z2 z3
theorem RJ.u (h : RJ y J J') {c i : Nat} (hc : 3 ≤ c) (hc2 : c ≤ 23) (h1 : sdd c * xb y ≤ i) (h2 : i < sdd c * xb y + sdd c) (u : Int64) : RJ y J (am_u2 J' c i u) := fun a j z1 z2 => by
  by_cases e : a = c ∧ j = i
  · exact absurd ⟨by omega, by omega, by rw [e.1, e.2]; exact h1, by rw [e.1, e.2]; exact h2⟩ z2
  · rw [fr1J (by omega)]; exact h a j z1 z2
theorem Bd.wr (h : Bd C M) (hC : ∀ b, C' 1 b = C 1 b) (hM : ∀ b, b ≤ 9 → M' 0 b = M 0 b) : Bd C' M' := by
  obtain ⟨f, p, h1, h2, h3, h4, h5, h6, h7⟩ := h
  refine ⟨f, p, h1, h2, h3, ?_, ?_, ?_, ?_⟩
  · rw [hM 8 (by omega)]; exact h4
  · rw [hM 9 (by omega)]; exact h5
  · rw [hC 4]; exact h6
  · rw [hC 7, hC 8, hC 6]; exact h7
theorem Gd.wr (h : Gd T n C M J p q k v w) (hC : ∀ a b, 1 ≤ a → a ≤ 3 → C' a b = C a b) (hM : ∀ b, b ≤ 9 → M' 0 b = M 0 b) (hM1 : ∀ b, M' 1 b = M 1 b) (hJ : J' 0 7 = J 0 7) : Gd T n C' M' J' p q k v w := by
  obtain ⟨⟨⟨a1, a2, a3, a4⟩, b2, b3, b4, b5, b6⟩, c2, c3, c4, c5, c6⟩ := h
  have e1 : ∀ b, C' 1 b = C 1 b := fun b => hC 1 b (by omega) (by omega)
  refine ⟨⟨⟨(e1 2).trans a1, (hM 2 (by omega)).trans a2, a3, fun j hj => ?_⟩, (e1 7).trans b2, (hM 8 (by omega)).trans b3, (e1 8).trans b4, (hM 9 (by omega)).trans b5, b6.fr (fun b => hC 2 b (by omega) (by omega))⟩, c2, (e1 4).trans c3, c4, fun z => ?_, ?_⟩
  · rw [hC 3 j (by omega) (by omega), hM1]; exact a4 j hj
  · rw [e1 3, hM 5 (by omega)]; exact c5 z
  · unfold tkR at c6 ⊢
    rw [e1 6, e1 5, hM 4 (by omega), hM 3 (by omega), hM 6 (by omega), hJ]; exact c6
theorem Sy.wr (h : Sy T n lo C M J) (hC : ∀ a b, 1 ≤ a → a ≤ 3 → C' a b = C a b) (hM : ∀ b, b ≤ 9 → M' 0 b = M 0 b) (hM1 : ∀ b, M' 1 b = M 1 b) (hJ : J' 0 7 = J 0 7) : Sy T n lo C' M' J' := by
  obtain ⟨⟨a1, a2, a3, a4⟩, b, c⟩ := h
  refine ⟨⟨(hC 1 2 (by omega) (by omega)).trans a1, (hM 2 (by omega)).trans a2, a3, fun j hj => ?_⟩, b.fr (fun b => hC 2 b (by omega) (by omega)), ?_⟩
  · rw [hC 3 j (by omega) (by omega), hM1]; exact a4 j hj
  · rcases c with ⟨p, q, k, v, w, g, hl⟩ | g
    · exact Or.inl ⟨p, q, k, v, w, g.wr hC hM hM1 hJ, hl⟩
    · exact Or.inr (g.wr (fun b => hC 1 b (by omega) (by omega)) hM)
theorem Sy.uM (h : Sy T n lo C M J) {c i : Nat} (hc : 2 ≤ c) (u : Int32) : Sy T n lo C (am_u2 M c i u) J := h.wr (fun _ _ _ _ => rfl) (fun b _ => u2_c (by omega)) (fun b => u2_c (by omega)) rfl
theorem Sy.uJ (h : Sy T n lo C M J) {c i : Nat} (hc : 2 ≤ c) (u : Int64) : Sy T n lo C M (am_u2 J c i u) := h.wr (fun _ _ _ _ => rfl) (fun b _ => rfl) (fun b => rfl) (u2_c (by omega))
theorem Sy.uC (h : Sy T n lo C M J) {c i : Nat} (hc : 4 ≤ c) (u : Int32) : Sy T n lo (am_u2 C c i u) M J := h.wr (fun a b _ _ => u2_c (by omega)) (fun b _ => rfl) (fun b => rfl) rfl
/-- names do not mind stores at places that are not taken, nor at cells that are not counts -/
theorem Nm.uJ (h : Nm y C M J) {qd i : Nat} (hq : qd < 5) (hi : Int32.toNatClampNeg (M (kc qd) (xb y)) ≤ i) (u : Int64) : Nm y C M (am_u2 J (jk qd) (kx qd * xb y + i) u) := by
  refine ⟨h.1, ?_, h.2.2⟩
  have key : ∀ q j, q < 5 → j < Int32.toNatClampNeg (M (kc q) (xb y)) → nmR (C (tc_P y + 3 + q) j) (am_u2 J (jk qd) (kx qd * xb y + i) u (jk q) (kx q * xb y + j)) := by
    intro q j hq2 hj
    have e : am_u2 J (jk qd) (kx qd * xb y + i) u (jk q) (kx q * xb y + j) = J (jk q) (kx q * xb y + j) := by
      by_cases z : q = qd
      · subst z
        exact u2_p (by omega)
      · refine u2_c ?_
        rcases q5 hq with rfl | rfl | rfl | rfl | rfl <;> rcases q5 hq2 with rfl | rfl | rfl | rfl | rfl <;> first | exact absurd rfl z | decide
    rw [e]; exact h.2.1.k hq2 hj
  exact ⟨fun j hj => key 0 j (by omega) hj, fun j hj => key 1 j (by omega) hj, fun j hj => key 2 j (by omega) hj, fun j hj => key 3 j (by omega) hj, fun j hj => key 4 j (by omega) hj⟩
theorem Nm.uM (h : Nm y C M J) {c i : Nat} (hc : 2 ≤ c) (h2 : c ≠ 2) (h6 : c ≠ 6) (h11 : c ≠ 11) (h20 : c ≠ 20) (h22 : c ≠ 22) (h26 : c ≠ 26) (h34 : c ≠ 34) (h14 : c ≠ 14) (h18 : c ≠ 18) (u : Int32) : Nm y C (am_u2 M c i u) J := by
  obtain ⟨a, b, d⟩ := h
  have e : ∀ z j, z ≠ c → am_u2 M c i u z j = M z j := fun z j hz => u2_c hz
  refine ⟨?_, ?_, ?_⟩
  · unfold rl_Pc at a ⊢
    rw [e 2 _ (by omega), e 6 _ (by omega), e 11 _ (by omega), e 20 _ (by omega), e 22 _ (by omega), e 26 _ (by omega), e 34 _ (by omega), e 14 _ (by omega), e 18 _ (by omega)]
    exact a
  · unfold rl_Pn at b ⊢
    rw [e 2 _ (by omega), e 6 _ (by omega), e 11 _ (by omega), e 20 _ (by omega), e 22 _ (by omega)]
    exact b
  · rw [e 0 _ (by omega)]; exact d
/-- the class alone, at fault -/
theorem Bd.tk (h : Bd C M) {c : Int32} (hc : ¬ 0 = c) (u : Int32) (d : Nat) : ∃ C', am_G (am_ev (d + 2)) 80 [.ref 1, .int c, .int u] (C, Jc, (tc_R x), tc_S, 289, 11479) = some (none, (C', Jc, (tc_R x), tc_S, 289, 11479)) ∧ TF C C' ∧ Bd C' M ∧ ¬ C' 1 7 = 0 := by
  obtain ⟨C', a1, a2, a3, a4⟩ := h.failC (Jc := Jc) (x := x) d
  exact ⟨C', by rw [b80_0, h.atC hc, am_call_s, am_toL, b80_6, if_pos rfl, a1, am_call_s, am_toN, b80_25], a2, a3, a4⟩
theorem Bd.tn (h : Bd C M) (a b : Int32) (d : Nat) : ∃ C' u, am_G (am_ev (d + 2)) 81 [.ref 1, .int a, .int b] (C, Jc, (tc_R x), tc_S, 289, 11479) = some (some (.int u), (C', Jc, (tc_R x), tc_S, 289, 11479)) ∧ TF C C' ∧ Bd C' M ∧ ¬ C' 1 7 = 0 := by
  obtain ⟨C', a1, a2, a3, a4⟩ := h.failC (Jc := Jc) (x := x) d
  exact ⟨C', C 1 5, by rw [b81_0, h.c4, if_neg (by decide), a1, am_call_s, am_toN, b81_22, b81_51], a2, a3, a4⟩
theorem Bd.nn (h : Bd C M) (d : Nat) : ∃ C' u, am_G (am_ev (d + 2)) 82 [.ref 1] (C, Jc, (tc_R x), tc_S, 289, 11479) = some (some (.int u), (C', Jc, (tc_R x), tc_S, 289, 11479)) ∧ TF C C' ∧ Bd C' M ∧ ¬ C' 1 7 = 0 := by
  obtain ⟨C', a1, a2, a3, a4⟩ := h.failC (Jc := Jc) (x := x) d
  exact ⟨C', C 1 5, by rw [b82_0, h.c4, if_neg (by decide), a1, am_call_s, am_toN, b82_22, b82_52], a2, a3, a4⟩
theorem Bd.tt (h : Bd C M) (a : Int32) (d : Nat) : ∃ C' u, am_G (am_ev (d + 2)) 83 [.ref 1, .int a] (C, Jc, (tc_R x), tc_S, 289, 11479) = some (some (.int u), (C', Jc, (tc_R x), tc_S, 289, 11479)) ∧ TF C C' ∧ Bd C' M ∧ ¬ C' 1 7 = 0 := by
  obtain ⟨C', a1, a2, a3, a4⟩ := h.failC (Jc := Jc) (x := x) d
  exact ⟨C', -1, by rw [b83_0, h.c4, if_neg (by decide), a1, am_call_s, am_toN, b83_17], a2, a3, a4⟩
theorem ro_mx : ∀ q, q < 9 → am_ro q = nI (mxx q) := by decide +kernel
theorem mx30 (q : Nat) : mxx q ≤ 30 := by unfold mxx; split <;> omega
theorem Gd.beg (g : Gd T n C M J p q k v w) (hk : k = 3) (hP : PL x N la lb C M J) {kd : Nat} (hkd : kd < 9) (d e : Nat) : ∃ C1 M1 J1 s, am_G (am_ev (d + 3)) 84 [.ref 1, .int (nI kd)] (C, Jc, (tc_R x), tc_S, 289, 11479) = some (none, (C1, Jc, (tc_R x), tc_S, 289, 11479)) ∧ ((N kd = mxx kd ∧ am_G (am_ev (e + 3)) 183 [.ref 0, .int 1] (M, J, tm_R, tm_S, 77, 21637) = some (some (.int s), (M1, J1, tm_R, tm_S, 77, 21637))) ∨ (N kd < mxx kd ∧ am_G (am_ev (e + 3)) 183 [.ref 0, .int 0] (M, J, tm_R, tm_S, 77, 21637) = some (some (.int s), (M1, J1, tm_R, tm_S, 77, 21637)))) ∧ TF C C1 ∧ MF M M1 ∧ JF J J1 ∧ Sy T n (p + 1) C1 M1 J1 ∧ (M1 0 8 = 0 → s = 1 ∧ N kd < mxx kd) ∧ (¬ M1 0 8 = 0 → s = 0 ∧ Bd C1 M1) := by
  obtain ⟨c1, c2, c3⟩ := hP.1 kd hkd
  have h30 := mx30 kd
  have ck : Int32.toNatClampNeg (nI kd) = kd := nI_clamp (by omega)
  have hi : am_in (nI kd) 9 := nI_in (by omega) (by omega)
  have f57 : am_G (am_ev (d + 2)) 57 [.ref (tc_P (!x)), .int (nI kd)] (C, Jc, (tc_R x), tc_S, 289, 11479) = some (some (.int (if N kd < mxx kd then 0 else 1)), (C, Jc, (tc_R x), tc_S, 289, 11479)) := by
    (rw [b57_0, if_pos hi, if_pos ⟨rfl, hi⟩]; (try simp only [ck]); rw [c1, ro_mx kd hkd])
    by_cases z : N kd < mxx kd
    · rw [if_pos (nI_lt z (by omega)), if_pos z]
    · rw [if_neg (nI_nlt (by omega) (by omega)), if_neg z]
  by_cases z : N kd < mxx kd
  · obtain ⟨C1, M1, J1, a1, a2, a3, a4, a5, a6, a7⟩ := g.go (Jc := Jc) (x := x) (by omega) (by omega) d e
    refine ⟨C1, M1, J1, if M1 0 8 = 0 then 1 else 0, ?_, Or.inr ⟨z, ?_⟩, a3, a4, a5, a6, fun h8 => ⟨if_pos h8, z⟩, fun h8 => ⟨if_neg h8, ?_⟩⟩
    · rw [b84_0, f57, if_pos z, am_call_s, am_toL, b84_8, if_pos rfl, a1, am_call_s, am_toN, b84_27]
    · rw [b183_0, if_pos g.m8, if_pos rfl, b183_20, if_pos g.m8, a2, am_call_s, am_toN, b183_31, ite_int]
    · exact a6.2.2.resolve_left (fun ⟨p', q', k', v', w', g', _⟩ => h8 g'.m8)
  · have c5 := g.failC (Jc := Jc) (x := x) (d + 1) 5
    have m5 := g.failM (e + 1) 5
    refine ⟨Fc C 5 p, Fmm M 5 p, J, 0, ?_, Or.inl ⟨by omega, ?_⟩, Fc_f C 5 p, Fmm_f M 5 p, JF.rf J, g.fsy (by omega) (by omega), fun h8 => absurd h8 (by rw [Fmm_8]; decide), fun _ => ⟨rfl, g.fl (by omega) (by omega)⟩⟩
    · rw [b84_0, f57, if_neg z, am_call_s, am_toL, b84_8, if_neg (by decide : ¬ (1 : Int32) = 0)]
      refine (congrArg (fun z => am_call z _) c5).trans ?_
      rw [am_call_s, am_toN, b84_20, b84_27]
    · rw [b183_0, if_pos g.m8, if_neg (by decide : ¬ (1 : Int32) = 0)]
      refine (congrArg (fun z => am_call z _) m5).trans ?_
      rw [am_call_s, am_toN, b183_20, Fmm_8, if_neg (by decide), b183_31, Fmm_8, if_neg (by decide)]
theorem c_add {qd m : Nat} (hq : qd < 5) (hm : C (tc_P (!x) + 1) qd = nI m) (h8 : m < 8) (u : Int32) (d : Nat) : am_G (am_ev (d + 1)) 60 [.ref (tc_P (!x)), .int (nI qd), .int u] (C, Jc, (tc_R x), tc_S, 289, 11479) = some (some (.int (nI m)), (am_u2 (am_u2 C (tc_P (!x) + 3 + qd) m u) (tc_P (!x) + 1) qd (nI (m + 1)), Jc, (tc_R x), tc_S, 289, 11479)) := by
  have hy := tc_P4 (!x)
  have ck : Int32.toNatClampNeg (nI qd) = qd := nI_clamp (by omega)
  have cb : Int32.toNatClampNeg (nI m) = m := nI_clamp (by omega)
  have hi9 : am_in (nI qd) 9 := nI_in (by omega) (by omega)
  have hi5 : am_in (nI qd) 5 := nI_in (by omega) (by omega)
  have hts := ts_nm (!x) qd hq
  have hk : (tc_S (tc_P (!x) + 3 + qd)).1 = 20 ∧ tc_P (!x) + 3 + qd < 289 := ⟨by rw [hts], by omega⟩
  have e1 : am_u2 C (tc_P (!x) + 3 + qd) m u (tc_P (!x) + 1) qd = nI m := by rw [u2_c (by omega), hm]
  (rw [b60_0, if_pos hi9, if_pos hi5]; (try simp only [ck]); rw [if_pos hk, hm, hts, if_pos (nI_in (by omega) (by omega)), if_pos hi9, if_pos hi9]; (try simp only [cb]); rw [e1, nI_1])
end BEG
