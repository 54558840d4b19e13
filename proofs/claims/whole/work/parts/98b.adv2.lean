section ADV2
variable {T : Nat → Nat} {n q k p : Nat} {x : Bool} {C M : tI} {J Jc : tJ}
/-- what both have done when a token is taken -/
abbrev Adv (T : Nat → Nat) (n : Nat) (x : Bool) (C M : tI) (Jc J : tJ) (q d e : Nat) : Prop := ∃ C' M' J', am_G (am_ev (d + 2)) 76 [.ref 1] (C, Jc, (tc_R x), tc_S, 289, 11479) = some (none, (C', Jc, (tc_R x), tc_S, 289, 11479)) ∧ am_G (am_ev (e + 2)) 164 [.ref 0] (M, J, tm_R, tm_S, 77, 21637) = some (none, (M', J', tm_R, tm_S, 77, 21637)) ∧ TF C C' ∧ MF M M' ∧ JF J J' ∧ ((∃ p' q' k' v' w', Gd T n C' M' J' p' q' k' v' w' ∧ q ≤ p' ∧ (k' = 3 → q' = p' + (ow v').length ∧ (0 < p' → ¬ (isL (T (p' - 1)) ∨ isD (T (p' - 1)))))) ∨ (Bd C' M' ∧ C' 1 7 = 0))
theorem bas.tf {C' M' : tI} (h : bas T n C M) (hC : TF C C') (hM : MF M M') (h7 : C' 1 7 = C 1 7) (h8 : C' 1 8 = C 1 8) (m8 : M' 0 8 = M 0 8) (m9 : M' 0 9 = M 0 9) : bas T n C' M' := by
  obtain ⟨a, b, c, d, e, f⟩ := h
  exact ⟨a.tf hC hM, h7.trans b, m8.trans c, h8.trans d, m9.trans e, f.fr (fun b => hC 2 b (fun z => by omega))⟩
theorem Bm_v (M : tI) (p : Nat) {b : Nat} (h : b ≠ 4) (h2 : b ≠ 5) (h3 : b ≠ 3) : Bm M p 0 b = M 0 b := by unfold Bm; rw [u2_p h3, u2_p h2, u2_p h]
theorem Bm_4 (M : tI) (p : Nat) : Bm M p 0 4 = nI p := by unfold Bm; rw [u2_p (by omega), u2_p (by omega), u2_s]
theorem Wm_v (M : tI) (p : Nat) (s : Int32) {b : Nat} (h : b ≠ 6) (h2 : b ≠ 3) (h3 : b ≠ 5) : Wm M p s 0 b = M 0 b := by unfold Wm; rw [u2_p h2, u2_p h3, u2_p h2, u2_p h]
theorem Wm_3 (M : tI) (p : Nat) (s : Int32) : Wm M p s 0 3 = s := by unfold Wm; rw [u2_s]
theorem Wm_6 (M : tI) (p : Nat) (s : Int32) : Wm M p s 0 6 = 0 := by unfold Wm; rw [u2_p (by omega), u2_p (by omega), u2_p (by omega), u2_s]
theorem Adv.fin (hP : Pv T n C M q k) (hs : scR isB T n q n) (d e : Nat) : Adv T n x C M Jc J q d e := by
  obtain ⟨hb, hq, h4, hk, h3, h5, hv⟩ := hP
  have ht := hb.1
  have c1 := c_adv97 (Jc := Jc) (x := x) ht h3 h4 hk hs (d + 1)
  rw [if_neg (Nat.lt_irrefl n), c_end] at c1
  refine ⟨_, _, J, c1, m_aend ht h5 hs (e + 1), (Bs_f C n).u (by omega) _, Bm_f M n, JF.rf J, Or.inl ⟨n, n, 1, 0, [], ⟨?_, Nat.le_refl _, ?_, by omega, fun _ => ⟨?_, ?_, ?_⟩, ?_, ?_, Nat.le_refl _, ?_, fun _ => rfl, fun z => absurd rfl z, fun z => by omega, fun z => by omega, fun z => by omega, fun z => by omega, fun z => by omega⟩, hq, fun z => by omega⟩⟩
  · refine hb.tf ((Bs_f C n).u (by omega) _) (Bm_f M n) ?_ ?_ ?_ ?_
    · rw [u2_p (by omega), Bs_o _ _ (by omega) (by omega) (by omega)]
    · rw [u2_p (by omega), Bs_o _ _ (by omega) (by omega) (by omega)]
    · exact Bm_v _ _ (by omega) (by omega) (by omega)
    · exact Bm_v _ _ (by omega) (by omega) (by omega)
  · exact u2_s
  · rw [u2_p (by omega)]; exact Bs_3 C n
  · unfold Bm; rw [u2_p (by omega), u2_s]
  · exact fun z => absurd rfl z
  · rw [u2_p (by omega)]; exact Bs_6 C n
  · exact Bm_4 M n
  · unfold Bm; rw [u2_s]; rfl
theorem ap_pre (hs : scR isB T n q p) (hv : prv T q k) : ap q p k ↔ ¬ (0 < p ∧ (isL (T (p - 1)) ∨ isD (T (p - 1)))) := by
  by_cases e : q < p
  · refine ⟨fun _ z => ?_, fun _ => Or.inl e⟩
    have := hs.2.2.1 (p - 1) (by omega) (by omega)
    unfold isL isD at z; unfold isB at this; omega
  · have e2 : p = q := by have := hs.1; omega
    subst e2
    unfold prv at hv
    rw [hv]
    exact ⟨fun z => z.resolve_left e, Or.inr⟩
theorem m_84L (d : Nat) (I : tI) (J : tJ) (p : Nat) {c : Nat} (h : isL c) (v3 v4 v5 : Value) : am_ev (d + 1) 164 84 [.ref 0, .int (nI p), .int (am_b (isL c)), v3, v4, v5] [.int (am_b (isD c))] (I, J, tm_R, tm_S, 77, 21637) = am_ev (d + 1) 164 93 [.ref 0, .int (nI p), .int 1, .int 0, v4, v5] [] (I, J, tm_R, tm_S, 77, 21637) := by
  rw [b164_84, am_b1 h, am_b0 (fun z => by unfold isD at z; unfold isL at h; omega), if_neg (by decide : ¬ (1 : Int32) = 0)]
theorem m_84D (d : Nat) (I : tI) (J : tJ) (p : Nat) {c : Nat} (h : isD c) (v3 v4 v5 : Value) : am_ev (d + 1) 164 84 [.ref 0, .int (nI p), .int (am_b (isL c)), v3, v4, v5] [.int (am_b (isD c))] (I, J, tm_R, tm_S, 77, 21637) = am_ev (d + 1) 164 93 [.ref 0, .int (nI p), .int 0, .int 1, v4, v5] [] (I, J, tm_R, tm_S, 77, 21637) := by
  rw [b164_84, am_b1 h, am_b0 (fun z => by unfold isL at z; unfold isD at h; omega), if_pos rfl, if_neg (by decide : ¬ (1 : Int32) = 0)]
theorem Adv.sgn (hP : Pv T n C M q k) (hs : scR isB T n q p) (hp : p < n) (hL : ¬ isL (T p)) (hD : ¬ isD (T p)) (d e : Nat) : Adv T n x C M Jc J q d e := by
  obtain ⟨hb, hq, h4, hk, h3, h5, hv⟩ := hP
  have ht := hb.1
  have hn := ht.2.2.1
  obtain ⟨t1, t2, t3⟩ := ht.2.2.2 p hp
  have hc : Int32.toNatClampNeg (nI p) = p := nI_clamp (by omega)
  have c1 := c_adv97 (Jc := Jc) (x := x) ht h3 h4 hk hs (d + 1)
  rw [if_pos hp, c_97O _ hL t3, c_97S _ hD t3] at c1
  have m1 := m_a84 (J := J) ht h5 hs hp e
  have t4 : am_u2 (am_u2 (am_u2 (Bm M p) 0 6 0) 0 3 3) 0 5 (nI p + 1) 1 p = nI (T p) := by rw [u2_c (by omega), u2_c (by omega), u2_c (by omega), Bm_f M p 1 p (by omega), t2]
  (rw [b164_84, am_b0 hL, am_b0 hD, if_pos rfl, if_pos rfl, b164_131, if_pos rfl, if_pos rfl, if_pos (nI_in (by omega) (by omega))] at m1; (try simp only [hc] at m1); rw [Bm_f M p 1 p (by omega), t2] at m1)
  have hMF : MF M (am_u2 (am_u2 (am_u2 (am_u2 (Bm M p) 0 6 0) 0 3 3) 0 5 (nI p + 1)) 0 6 (nI (T p))) := ((((Bm_f M p).u (by omega) (by omega) _).u (by omega) (by omega) _).u (by omega) (by omega) _).u (by omega) (by omega) _
  have w8 : ∀ b, b ≠ 3 → b ≠ 4 → b ≠ 5 → b ≠ 6 → am_u2 (am_u2 (am_u2 (am_u2 (Bm M p) 0 6 0) 0 3 3) 0 5 (nI p + 1)) 0 6 (nI (T p)) 0 b = M 0 b := fun b a1 a2 a3 a4 => by
    rw [u2_p a4, u2_p a3, u2_p a1, u2_p a4, Bm_v _ _ a2 a3 a1]
  have w4 : am_u2 (am_u2 (am_u2 (am_u2 (Bm M p) 0 6 0) 0 3 3) 0 5 (nI p + 1)) 0 6 (nI (T p)) 0 4 = nI p := by
    rw [u2_p (by omega), u2_p (by omega), u2_p (by omega), u2_p (by omega), Bm_4]
  have w3 : am_u2 (am_u2 (am_u2 (am_u2 (Bm M p) 0 6 0) 0 3 3) 0 5 (nI p + 1)) 0 6 (nI (T p)) 0 3 = 3 := by
    rw [u2_p (by omega), u2_p (by omega), u2_s]
  have w5 : am_u2 (am_u2 (am_u2 (am_u2 (Bm M p) 0 6 0) 0 3 3) 0 5 (nI p + 1)) 0 6 (nI (T p)) 0 5 = nI (p + 1) := by
    rw [u2_p (by omega), u2_s, nI_1]
  by_cases hg : T p ∉ sgs
  · rw [if_pos hg] at c1
    refine ⟨_, _, _, c1, m1, Bs_f C p, hMF, (JF.rf J).u _, Or.inl ⟨p, p + 1, 0, T p, [], ⟨?_, by omega, Bs_4 C p, by omega, fun z => absurd rfl z, Bs_6 C p, w4, by omega, w3, fun z => by omega, fun _ => by omega, fun z => by omega, fun z => by omega, fun z => by omega, fun z => by omega, fun _ => ⟨t3, hg, u2_s⟩⟩, hs.1, fun z => by omega⟩⟩
    exact hb.tf (Bs_f C p) hMF (Bs_o _ _ (by omega) (by omega) (by omega)) (Bs_o _ _ (by omega) (by omega) (by omega)) (w8 8 (by omega) (by omega) (by omega) (by omega)) (w8 9 (by omega) (by omega) (by omega) (by omega))
  · rw [if_neg hg] at c1
    have hCF : TF C (am_u2 (am_u2 (am_u2 (Bs C p) 1 4 5) 1 5 (nI (T p))) 1 3 (nI (p + 1))) := (((Bs_f C p).u (by omega) _).u (by omega) _).u (by omega) _
    refine ⟨_, _, _, c1, m1, hCF, hMF, (JF.rf J).u _, Or.inl ⟨p, p + 1, 5, T p, [], ⟨?_, by omega, ?_, by omega, fun _ => ⟨u2_s, w5, fun _ => ?_⟩, ?_, w4, by omega, w3, fun z => by omega, fun _ => by omega, fun z => by omega, fun z => by omega, fun z => by omega, fun _ => ⟨by simpa using hg, ?_, u2_s⟩, fun z => by omega⟩, hs.1, fun z => by omega⟩⟩
    · refine hb.tf hCF hMF ?_ ?_ (w8 8 (by omega) (by omega) (by omega) (by omega)) (w8 9 (by omega) (by omega) (by omega) (by omega))
      · rw [u2_p (by omega), u2_p (by omega), u2_p (by omega), Bs_o _ _ (by omega) (by omega) (by omega)]
      · rw [u2_p (by omega), u2_p (by omega), u2_p (by omega), Bs_o _ _ (by omega) (by omega) (by omega)]
    · rw [u2_p (by omega), u2_p (by omega), u2_s]; rfl
    · unfold prv
      rw [Nat.add_sub_cancel]
      exact ⟨fun z => (z.2.elim hL hD).elim, fun z => by omega⟩
    · rw [u2_p (by omega), u2_p (by omega), u2_p (by omega)]; exact Bs_6 C p
    · rw [u2_p (by omega), u2_s]
theorem Adv.lts (hP : Pv T n C M q k) (hs : scR isB T n q p) (hp : p < n) (hL : isL (T p)) (d e : Nat) : Adv T n x C M Jc J q d e := by
  obtain ⟨hb, hq, h4, hk, h3, h5, hv⟩ := hP
  have ht := hb.1
  have hn := ht.2.2.1
  have c1 := c_adv97 (Jc := Jc) (x := x) ht h3 h4 hk hs (d + 1)
  rw [if_pos hp, c_97L _ hL] at c1
  have hBm : tpR T n C (Bm M p) := ht.tf (TF.rf C) (Bm_f M p)
  have b8 : Bm M p 0 8 = 0 := (Bm_v M p (by omega) (by omega) (by omega)).trans hb.2.2.1
  have b9 : Bm M p 0 9 = -1 := (Bm_v M p (by omega) (by omega) (by omega)).trans hb.2.2.2.2.1
  have m1 := m_a84 (J := J) ht h5 hs hp e
  rw [m_84L _ _ _ _ hL, m_93 hBm b8 (by omega), m_131 _ _ _ _ _ _ _ _ (Or.inl ⟨rfl, rfl⟩), if_neg (by decide : ¬ (1 : Int32) = 0), if_neg (by decide : ¬ (1 : Int32) = 0)] at m1
  obtain ⟨r, hr⟩ := scR.ex isL T (show p ≤ n by omega)
  have hpr : p < r := by
    rcases Nat.lt_or_ge p r with z | z
    · exact z
    · have e1 : r = p := by have := hr.1; omega
      exact absurd hL (e1 ▸ hr.2.2.2 (by omega))
  have hrn := hr.2.1
  have hin : ∀ j, p ≤ j → j < r → if (1 : Int32) = 0 then isD (T j) else isL (T j) := fun j a b => by rw [if_neg (by decide : ¬ (1 : Int32) = 0)]; exact hr.2.2.1 j a b
  have hout : r < n → ¬ (if (1 : Int32) = 0 then isD (T r) else isL (T r)) := fun z => by rw [if_neg (by decide : ¬ (1 : Int32) = 0)]; exact hr.2.2.2 z
  have hap := ap_pre hs hv
  by_cases hpre : 0 < p ∧ (isL (T (p - 1)) ∨ isD (T (p - 1)))
  · rw [am_b0 (fun z => (hap.mp z) hpre), if_pos rfl] at c1
    rw [if_pos hpre] at m1
    have hW : MF M (Wm (Fm (Bm M p) p) p 1) := ((Bm_f M p).tr (Fm_f _ p)).tr (Wm_f _ p 1)
    have w8 : Wm (Fm (Bm M p) p) p 1 0 8 = nI 1 := by rw [Wm_v _ _ _ (by omega) (by omega) (by omega)]; unfold Fm; rw [u2_p (by omega), u2_s]; rfl
    have w9 : Wm (Fm (Bm M p) p) p 1 0 9 = nI p := by rw [Wm_v _ _ _ (by omega) (by omega) (by omega)]; unfold Fm; rw [u2_s]
    obtain ⟨M', J', e1, f1, f2, f3, f4⟩ := m_tail (C := C) e (f := 1) (by omega) (by omega) 1 0 (m := 6) (Or.inl ⟨rfl, rfl, rfl⟩) (r - p) _ (am_u2 J 0 7 0) p 0 (by omega) (by omega) (ht.tf (TF.rf C) hW) w8 hrn hin hout
    refine ⟨_, M', J', c1, m1.trans e1, Bs_f C p, hW.tr f1, ((JF.rf J).u _).tr f2, Or.inr ⟨⟨1, p, by omega, by omega, by omega, f3.trans w8, f4.trans w9, Bs_4 C p, Or.inr ⟨?_, rfl, Bs_6 C p⟩⟩, ?_⟩⟩
    · rw [Bs_o _ _ (by omega) (by omega) (by omega)]; exact hb.2.1
    · rw [Bs_o _ _ (by omega) (by omega) (by omega)]; exact hb.2.1
  · rw [am_b1 (hap.mpr hpre), if_neg (by decide : ¬ (1 : Int32) = 0)] at c1
    rw [if_neg hpre] at m1
    have hBs : tpR T n (Bs C p) M := ht.tf (Bs_f C p) (MF.rf M)
    have hW : MF M (Wm (Bm M p) p 1) := (Bm_f M p).tr (Wm_f _ p 1)
    have hWt : tpR T n C (Wm (Bm M p) p 1) := ht.tf (TF.rf C) hW
    have w8 : Wm (Bm M p) p 1 0 8 = 0 := by rw [Wm_v _ _ _ (by omega) (by omega) (by omega)]; exact b8
    have w9 : Wm (Bm M p) p 1 0 9 = -1 := by rw [Wm_v _ _ _ (by omega) (by omega) (by omega)]; exact b9
    have w4 : Wm (Bm M p) p 1 0 4 = nI p := by rw [Wm_v _ _ _ (by omega) (by omega) (by omega)]; exact Bm_4 M p
    have hOs : rl_Ow (Bs C p) := hb.2.2.2.2.2.fr (fun b => Bs_f C p 2 b (fun z => by omega))
    rw [b77_0] at c1
    by_cases h6 : r - p ≤ 6
    · have er : p + (r - p) = r := by omega
      have cw := c_word (Jc := Jc) (x := x) hBs d am_un (Bs_3 C p) (r - p) h6 (by omega) (fun j a b => hr.2.2.1 j a (by omega))
      have mw := m_word (J := J) hWt e (p := p) (r - p) h6 (by omega) (fun j a b => hr.2.2.1 j a (by omega))
      rw [er] at cw mw
      rw [cw, c_wordE hBs d am_un _ hrn hr.2.2.2] at c1
      rw [mw, m_end hWt e hrn _ _ _ _ hout] at m1
      have hA := wdF_a T p (r - p) (fun j a b => hr.2.2.1 j a (by omega))
      have hwd : wdOK (wdF T p (r - p)) := ⟨by rw [wdF_l]; omega, by rw [wdF_l]; omega, hA⟩
      have hCF : TF C (am_u2 (am_u2 (am_u2 (Bs C p) 1 3 (nI r)) 1 4 2) 1 5 (nI (e5 (wdF T p (r - p))))) := (((Bs_f C p).u (by omega) _).u (by omega) _).u (by omega) _
      have hMF : MF M (am_u2 (Wm (Bm M p) p 1) 0 5 (nI r)) := hW.u (by omega) (by omega) _
      have hO2 : rl_Ow (am_u2 (am_u2 (am_u2 (Bs C p) 1 3 (nI r)) 1 4 2) 1 5 (nI (e5 (wdF T p (r - p))))) := hb.2.2.2.2.2.fr (fun b => hCF 2 b (fun z => by omega))
      have cc : ∀ b, b ≠ 3 → b ≠ 4 → b ≠ 5 → am_u2 (am_u2 (am_u2 (Bs C p) 1 3 (nI r)) 1 4 2) 1 5 (nI (e5 (wdF T p (r - p)))) 1 b = Bs C p 1 b := fun b a1 a2 a3 => by rw [u2_p a3, u2_p a2, u2_p a1]
      have mm : ∀ b, b ≠ 5 → am_u2 (Wm (Bm M p) p 1) 0 5 (nI r) 0 b = Wm (Bm M p) p 1 0 b := fun b a => u2_p a
      have hpv : ∀ j, j = 2 ∨ j = 3 ∨ j = 4 → prv T r j := fun j hj => ⟨fun _ => hj, fun _ => ⟨by omega, Or.inl (hr.2.2.1 (r - 1) (by omega) (by omega))⟩⟩
      by_cases ho : own (wdF T p (r - p))
      · obtain ⟨i, hi, ei⟩ := ho
        have hlen : r = p + (ow i).length := by
          have e0 := congrArg List.length ei
          rw [wdF_l] at e0
          omega
        rw [ei] at c1
        have c2 := c1.trans (congrArg (fun z => am_call z _) (c_own1 (Jc := Jc) (x := x) (ei ▸ hO2) hi d (some (.inr (nI (r - p))))))
        rw [am_call_s, am_toN, b76_146] at c2
        rw [ei] at cc hCF m1
        refine ⟨_, _, _, c2, m1, (hCF.u (by omega) _).u (by omega) _, hMF, (JF.rf J).u _, Or.inl ⟨p, r, 3, i, [], ⟨?_, hrn, ?_, by omega, fun _ => ⟨?_, u2_s, fun _ => hpv 3 (by omega)⟩, ?_, ?_, by omega, ?_, fun z => by omega, fun _ => hpr, fun z => by omega, fun _ => ⟨hi, u2_s, u2_s⟩, fun z => by omega, fun z => by omega, fun z => by omega⟩, hs.1, fun _ => ⟨hlen, fun z l => hpre ⟨z, l⟩⟩⟩⟩
        · refine hb.tf ((hCF.u (by omega) _).u (by omega) _) hMF ?_ ?_ ?_ ?_
          · rw [u2_p (by omega), u2_p (by omega), cc 7 (by omega) (by omega) (by omega), Bs_o _ _ (by omega) (by omega) (by omega)]
          · rw [u2_p (by omega), u2_p (by omega), cc 8 (by omega) (by omega) (by omega), Bs_o _ _ (by omega) (by omega) (by omega)]
          · rw [mm 8 (by omega), w8, hb.2.2.1]
          · rw [mm 9 (by omega), w9, hb.2.2.2.2.1]
        · rw [u2_p (by omega), u2_s]; rfl
        · rw [u2_p (by omega), u2_p (by omega), u2_p (by omega), u2_p (by omega), u2_s]
        · rw [u2_p (by omega), u2_p (by omega), cc 6 (by omega) (by omega) (by omega), Bs_6]
        · rw [mm 4 (by omega), w4]
        · rw [mm 3 (by omega), Wm_3]; rfl
      · have c2 := c1.trans (congrArg (fun z => am_call z _) (c_own0 (Jc := Jc) (x := x) hO2 hwd ho d (some (.inr (nI (r - p))))))
        rw [am_call_s, am_toN, b76_146] at c2
        refine ⟨_, _, _, c2, m1, hCF, hMF, (JF.rf J).u _, Or.inl ⟨p, r, 2, 0, wdF T p (r - p), ⟨?_, hrn, ?_, by omega, fun _ => ⟨?_, u2_s, fun _ => hpv 2 (by omega)⟩, ?_, ?_, by omega, ?_, fun z => by omega, fun _ => hpr, fun _ => ⟨u2_s, u2_s, hwd, ho⟩, fun z => by omega, fun z => by omega, fun z => by omega, fun z => by omega⟩, hs.1, fun z => by omega⟩⟩
        · refine hb.tf hCF hMF ?_ ?_ ?_ ?_
          · rw [cc 7 (by omega) (by omega) (by omega), Bs_o _ _ (by omega) (by omega) (by omega)]
          · rw [cc 8 (by omega) (by omega) (by omega), Bs_o _ _ (by omega) (by omega) (by omega)]
          · rw [mm 8 (by omega), w8, hb.2.2.1]
          · rw [mm 9 (by omega), w9, hb.2.2.2.2.1]
        · rw [u2_p (by omega), u2_s]; rfl
        · rw [u2_p (by omega), u2_p (by omega), u2_s]
        · rw [cc 6 (by omega) (by omega) (by omega), Bs_6]
        · rw [mm 4 (by omega), w4]
        · rw [mm 3 (by omega), Wm_3]; rfl
    · have cw := c_word (Jc := Jc) (x := x) hBs d am_un (Bs_3 C p) 6 (by omega) (by omega) (fun j a b => hr.2.2.1 j a (by omega))
      have mw := m_word (J := J) hWt e (p := p) 6 (by omega) (by omega) (fun j a b => hr.2.2.1 j a (by omega))
      rw [cw, c_wordX hBs d am_un _ (by omega) (hr.2.2.1 _ (by omega) (by omega)), am_call_s, am_toN, b76_146] at c1
      rw [mw] at m1
      have m2 := m1.trans (m_ob hWt e (r := p + 6) (m := 6) (by omega) 1 0 (hin _ (by omega) (by omega)) (by omega) w8)
      have hF : MF M (Fm (Wm (Bm M p) p 1) (p + 6)) := hW.tr (Fm_f _ _)
      have f8 : Fm (Wm (Bm M p) p 1) (p + 6) 0 8 = nI 1 := by unfold Fm; rw [u2_p (by omega), u2_s]; rfl
      have f9 : Fm (Wm (Bm M p) p 1) (p + 6) 0 9 = nI (p + 6) := by unfold Fm; rw [u2_s]
      obtain ⟨M', J', e1, f1, f2, f3, f4⟩ := m_tail (C := C) e (f := 1) (by omega) (by omega) 1 0 (m := 6) (Or.inl ⟨rfl, rfl, rfl⟩) (r - (p + 7)) _ (am_u2 J 0 7 (Int64.ofNat (e8 (wdF T p 6)))) (p + 7) 7 (by omega) (by omega) (ht.tf (TF.rf C) hF) f8 hrn (fun j a b => hin j (by omega) b) hout
      refine ⟨_, M', J', c1, m2.trans e1, ((Bs_f C p).u (by omega) _).u (by omega) _, hF.tr f1, ((JF.rf J).u _).tr f2, Or.inr ⟨⟨1, p + 6, by omega, by omega, by omega, f3.trans f8, f4.trans f9, ?_, Or.inr ⟨?_, rfl, u2_s⟩⟩, ?_⟩⟩
      · rw [u2_p (by omega), u2_p (by omega)]; exact Bs_4 C p
      · rw [u2_p (by omega), u2_p (by omega), Bs_o _ _ (by omega) (by omega) (by omega)]; exact hb.2.1
      · rw [u2_p (by omega), u2_p (by omega), Bs_o _ _ (by omega) (by omega) (by omega)]; exact hb.2.1
theorem Adv.dgs (hP : Pv T n C M q k) (hs : scR isB T n q p) (hp : p < n) (hD : isD (T p)) (d e : Nat) : Adv T n x C M Jc J q d e := by
  obtain ⟨hb, hq, h4, hk, h3, h5, hv⟩ := hP
  have ht := hb.1
  have hn := ht.2.2.1
  have t3 := (ht.2.2.2 p hp).2.2
  have hNL : ¬ isL (T p) := fun z => by unfold isL at z; unfold isD at hD; omega
  have c1 := c_adv97 (Jc := Jc) (x := x) ht h3 h4 hk hs (d + 1)
  rw [if_pos hp, c_97O _ hNL t3, c_97D _ hD] at c1
  have hBm : tpR T n C (Bm M p) := ht.tf (TF.rf C) (Bm_f M p)
  have b8 : Bm M p 0 8 = 0 := (Bm_v M p (by omega) (by omega) (by omega)).trans hb.2.2.1
  have b9 : Bm M p 0 9 = -1 := (Bm_v M p (by omega) (by omega) (by omega)).trans hb.2.2.2.2.1
  have m1 := m_a84 (J := J) ht h5 hs hp e
  rw [m_84D _ _ _ _ hD, m_93 hBm b8 (by omega), m_131 _ _ _ _ _ _ _ _ (Or.inr ⟨rfl, rfl⟩), if_pos rfl, if_pos rfl] at m1
  obtain ⟨r, hr⟩ := scR.ex isD T (show p ≤ n by omega)
  have hpr : p < r := by
    rcases Nat.lt_or_ge p r with z | z
    · exact z
    · have e1 : r = p := by have := hr.1; omega
      exact absurd hD (e1 ▸ hr.2.2.2 (by omega))
  have hrn := hr.2.1
  have hin : ∀ j, p ≤ j → j < r → if (0 : Int32) = 0 then isD (T j) else isL (T j) := fun j a b => by rw [if_pos rfl]; exact hr.2.2.1 j a b
  have hout : r < n → ¬ (if (0 : Int32) = 0 then isD (T r) else isL (T r)) := fun z => by rw [if_pos rfl]; exact hr.2.2.2 z
  have hap := ap_pre hs hv
  by_cases hpre : 0 < p ∧ (isL (T (p - 1)) ∨ isD (T (p - 1)))
  · rw [am_b0 (fun z => (hap.mp z) hpre), if_pos rfl] at c1
    rw [if_pos hpre] at m1
    have hW : MF M (Wm (Fm (Bm M p) p) p 2) := ((Bm_f M p).tr (Fm_f _ p)).tr (Wm_f _ p 2)
    have w8 : Wm (Fm (Bm M p) p) p 2 0 8 = nI 1 := by rw [Wm_v _ _ _ (by omega) (by omega) (by omega)]; unfold Fm; rw [u2_p (by omega), u2_s]; rfl
    have w9 : Wm (Fm (Bm M p) p) p 2 0 9 = nI p := by rw [Wm_v _ _ _ (by omega) (by omega) (by omega)]; unfold Fm; rw [u2_s]
    obtain ⟨M', J', e1, f1, f2, f3, f4⟩ := m_tail (C := C) e (f := 1) (by omega) (by omega) 0 1 (m := 4) (Or.inr ⟨rfl, rfl, rfl⟩) (r - p) _ (am_u2 J 0 7 0) p 0 (by omega) (by omega) (ht.tf (TF.rf C) hW) w8 hrn hin hout
    refine ⟨_, M', J', c1, m1.trans e1, Bs_f C p, hW.tr f1, ((JF.rf J).u _).tr f2, Or.inr ⟨⟨1, p, by omega, by omega, by omega, f3.trans w8, f4.trans w9, Bs_4 C p, Or.inr ⟨?_, rfl, Bs_6 C p⟩⟩, ?_⟩⟩
    · rw [Bs_o _ _ (by omega) (by omega) (by omega)]; exact hb.2.1
    · rw [Bs_o _ _ (by omega) (by omega) (by omega)]; exact hb.2.1
  · rw [am_b1 (hap.mpr hpre), if_neg (by decide : ¬ (1 : Int32) = 0)] at c1
    rw [if_neg hpre] at m1
    have hBs : tpR T n (Bs C p) M := ht.tf (Bs_f C p) (MF.rf M)
    have hW : MF M (Wm (Bm M p) p 2) := (Bm_f M p).tr (Wm_f _ p 2)
    have hWt : tpR T n C (Wm (Bm M p) p 2) := ht.tf (TF.rf C) hW
    have w8 : Wm (Bm M p) p 2 0 8 = 0 := by rw [Wm_v _ _ _ (by omega) (by omega) (by omega)]; exact b8
    have w9 : Wm (Bm M p) p 2 0 9 = -1 := by rw [Wm_v _ _ _ (by omega) (by omega) (by omega)]; exact b9
    have w4 : Wm (Bm M p) p 2 0 4 = nI p := by rw [Wm_v _ _ _ (by omega) (by omega) (by omega)]; exact Bm_4 M p
    rw [b78_0] at c1
    rw [← u2_id (Wm (Bm M p) p 2) 0 6 0 (Wm_6 _ _ _)] at m1
    by_cases h6 : r - p ≤ 4
    · have er : p + (r - p) = r := by omega
      have cw := c_num (Jc := Jc) (x := x) hBs d (Bs_3 C p) (r - p) h6 (by omega) (fun j a b => hr.2.2.1 j a (by omega))
      have mw := m_num (J := am_u2 J 0 7 0) hWt e (p := p) (r - p) h6 (by omega) (fun j a b => hr.2.2.1 j a (by omega))
      rw [er] at cw mw
      rw [cw, c_numE hBs d _ hrn hr.2.2.2, am_call_s, am_toN, b76_169] at c1
      have hW6 : MF M (am_u2 (Wm (Bm M p) p 2) 0 6 (nI (nmF T p (r - p)))) := hW.u (by omega) (by omega) _
      rw [mw, m_end (ht.tf (TF.rf C) hW6) e hrn _ _ _ _ hout] at m1
      have hnb := nmF_b T p (r - p) (fun j a b => hr.2.2.1 j a (by omega))
      have hnb2 : 10 ^ (r - p) ≤ 10 ^ 4 := Nat.pow_le_pow_right (by omega) h6
      have hCF : TF C (am_u2 (am_u2 (am_u2 (Bs C p) 1 3 (nI r)) 1 4 4) 1 5 (nI (nmF T p (r - p)))) := (((Bs_f C p).u (by omega) _).u (by omega) _).u (by omega) _
      have hMF : MF M (am_u2 (am_u2 (Wm (Bm M p) p 2) 0 6 (nI (nmF T p (r - p)))) 0 5 (nI r)) := hW6.u (by omega) (by omega) _
      have cc : ∀ b, b ≠ 3 → b ≠ 4 → b ≠ 5 → am_u2 (am_u2 (am_u2 (Bs C p) 1 3 (nI r)) 1 4 4) 1 5 (nI (nmF T p (r - p))) 1 b = Bs C p 1 b := fun b a1 a2 a3 => by rw [u2_p a3, u2_p a2, u2_p a1]
      have mm : ∀ b, b ≠ 5 → b ≠ 6 → am_u2 (am_u2 (Wm (Bm M p) p 2) 0 6 (nI (nmF T p (r - p)))) 0 5 (nI r) 0 b = Wm (Bm M p) p 2 0 b := fun b a a2 => by rw [u2_p a, u2_p a2]
      refine ⟨_, _, _, c1, m1, hCF, hMF, (JF.rf J).u _, Or.inl ⟨p, r, 4, nmF T p (r - p), [], ⟨?_, hrn, ?_, by omega, fun _ => ⟨?_, u2_s, fun _ => ⟨fun _ => by omega, fun _ => ⟨by omega, Or.inr (hr.2.2.1 (r - 1) (by omega) (by omega))⟩⟩⟩, ?_, ?_, by omega, ?_, fun z => by omega, fun _ => hpr, fun z => by omega, fun z => by omega, fun _ => ⟨by omega, u2_s, ?_⟩, fun z => by omega, fun z => by omega⟩, hs.1, fun z => by omega⟩⟩
      · refine hb.tf hCF hMF ?_ ?_ ?_ ?_
        · rw [cc 7 (by omega) (by omega) (by omega), Bs_o _ _ (by omega) (by omega) (by omega)]
        · rw [cc 8 (by omega) (by omega) (by omega), Bs_o _ _ (by omega) (by omega) (by omega)]
        · rw [mm 8 (by omega) (by omega), w8, hb.2.2.1]
        · rw [mm 9 (by omega) (by omega), w9, hb.2.2.2.2.1]
      · rw [u2_p (by omega), u2_s]; rfl
      · rw [u2_p (by omega), u2_p (by omega), u2_s]
      · rw [cc 6 (by omega) (by omega) (by omega), Bs_6]
      · rw [mm 4 (by omega) (by omega), w4]
      · rw [mm 3 (by omega) (by omega), Wm_3]; rfl
      · rw [u2_p (by omega), u2_s]
    · have cw := c_num (Jc := Jc) (x := x) hBs d (Bs_3 C p) 4 (by omega) (by omega) (fun j a b => hr.2.2.1 j a (by omega))
      have mw := m_num (J := am_u2 J 0 7 0) hWt e (p := p) 4 (by omega) (by omega) (fun j a b => hr.2.2.1 j a (by omega))
      rw [cw, c_numX hBs d _ (by omega) (hr.2.2.1 _ (by omega) (by omega)), am_call_s, am_toN, b76_169] at c1
      rw [mw] at m1
      have hW6 : MF M (am_u2 (Wm (Bm M p) p 2) 0 6 (nI (nmF T p 4))) := hW.u (by omega) (by omega) _
      have w68 : am_u2 (Wm (Bm M p) p 2) 0 6 (nI (nmF T p 4)) 0 8 = 0 := by rw [u2_p (by omega), w8]
      have m2 := m1.trans (m_ob (ht.tf (TF.rf C) hW6) e (r := p + 4) (m := 4) (by omega) 0 1 (hin _ (by omega) (by omega)) (by omega) w68)
      have hF : MF M (Fm (am_u2 (Wm (Bm M p) p 2) 0 6 (nI (nmF T p 4))) (p + 4)) := hW6.tr (Fm_f _ _)
      have f8 : Fm (am_u2 (Wm (Bm M p) p 2) 0 6 (nI (nmF T p 4))) (p + 4) 0 8 = nI 1 := by unfold Fm; rw [u2_p (by omega), u2_s]; rfl
      have f9 : Fm (am_u2 (Wm (Bm M p) p 2) 0 6 (nI (nmF T p 4))) (p + 4) 0 9 = nI (p + 4) := by unfold Fm; rw [u2_s]
      obtain ⟨M', J', e1, f1, f2, f3, f4⟩ := m_tail (C := C) e (f := 1) (by omega) (by omega) 0 1 (m := 4) (Or.inr ⟨rfl, rfl, rfl⟩) (r - (p + 5)) _ (am_u2 J 0 7 0) (p + 5) 5 (by omega) (by omega) (ht.tf (TF.rf C) hF) f8 hrn (fun j a b => hin j (by omega) b) hout
      refine ⟨_, M', J', c1, m2.trans e1, ((Bs_f C p).u (by omega) _).u (by omega) _, hF.tr f1, ((JF.rf J).u _).tr f2, Or.inr ⟨⟨1, p + 4, by omega, by omega, by omega, f3.trans f8, f4.trans f9, ?_, Or.inr ⟨?_, rfl, u2_s⟩⟩, ?_⟩⟩
      · rw [u2_p (by omega), u2_p (by omega)]; exact Bs_4 C p
      · rw [u2_p (by omega), u2_p (by omega), Bs_o _ _ (by omega) (by omega) (by omega)]; exact hb.2.1
      · rw [u2_p (by omega), u2_p (by omega), Bs_o _ _ (by omega) (by omega) (by omega)]; exact hb.2.1
theorem Pv.adv (hP : Pv T n C M q k) (d e : Nat) : Adv T n x C M Jc J q d e := by
  obtain ⟨p, hs⟩ := scR.ex isB T hP.2.1
  by_cases hp : p < n
  · by_cases hL : isL (T p)
    · exact Adv.lts hP hs hp hL d e
    · by_cases hD : isD (T p)
      · exact Adv.dgs hP hs hp hD d e
      · exact Adv.sgn hP hs hp hL hD d e
  · have : p = n := by have := hs.2.1; omega
    subst this
    exact Adv.fin hP hs d e
end ADV2
