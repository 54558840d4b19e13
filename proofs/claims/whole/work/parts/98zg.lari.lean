/-! LAWS: arithmetic, whole -/
section LAI
variable {T : Nat → Nat} {n p q k v o h la lb m fk ph op bs r : Nat} {w : List Nat} {x : Bool} {C M C' M' C2 M2 : tI} {J J' J2 Jc : tJ} {A B A2 B2 : List (Nat × Int)} {R R2 Q : List Nat} {e : Nat}
theorem nI_oi (v : Nat) : nI v = Int32.ofInt (v : Int) := rfl
theorem nI_e1 {a b : Nat} {c : Int32} (hc : c = nI b) (ha : a < 2 ^ 31) (hb : b < 2 ^ 31) : nI a = c ↔ a = b := by ((try simp only [hc])); exact nI_eq ha hb
theorem fac_all (IH : ∀ h', h = h' + 1 → ArP T n x Jc (o + 1) h' 101 7 5 (3 * h' + 3) 20 N5) (ho : o + h = 8) : ArP T n x Jc o h 103 5 7 (3 * h + 1) 28 N7 := by
  intro fk ph bs la lb m p q k v w C M J d e g b h61 hla hlb hm hfst hfk hph hs
  obtain ⟨s, t1, t2⟩ := m_op33 (e := e) (J := J) b.2.1 (show o ≤ 9 by omega)
  have s01 : s = 0 ∨ s = 1 := t2.elim (fun z => Or.inr z.1) (fun z => Or.inl z.1)
  have hs' : s = 0 ∨ (¬ (k = 3 ∧ v = 23) ∧ ¬ (k = 5 ∧ v = 91) ∧ ¬ (k = 3 ∧ v = 24)) := by
    rcases t2 with ⟨_, z1, z2⟩ | ⟨z, _⟩
    · refine Or.inr ?_
      rw [b.2.2.2.1] at z1
      have z1 := z1.imp (fun y => (nI_eq (b := 1) (by omega) (by omega)).mp y) (fun y => (nI_eq (b := 5) (by omega) (by omega)).mp y)
      rcases hfst with y | y | y
      · exact absurd z1 y
      · exact absurd y z2
      · exact y
    · exact Or.inl z
  have m0 := t1.trans (m_op127 g (show o ≤ 9 by omega) s01 hs')
  have g1 := g.uM (c := 41) (i := o) (by omega) 0
  by_cases k4 : k = 4
  · subst k4
    obtain ⟨v1, v2, v3⟩ := g.t4 rfl
    refine leaf (D := d + 4 * h + 2) g (by omega) (by omega) b (by omega) h61 hla hlb (0, (v : Int)) (0, (v : Int)) (EqV.num v1) v3 (fun C2 C3 e1 e2 => ?_) (fun M2 M4 J4 e1 e2 => (m0.trans (m_op154 g1 (by omega) (by omega) (by omega) _ _ _)).trans (m_opN g1 _ _ e1 e2)) _ (by omega)
    have e2' : am_G (am_ev (d + 4 * h + 2 + 2)) 41 [.ref (tc_P (!x) + 33), .int (C 1 5)] (C2, Jc, (tc_R x), tc_S, 289, 11479) = some (none, (C3, Jc, (tc_R x), tc_S, 289, 11479)) := by rw [v2]; exact e2
    rw [b103_0, if_pos ((g.ke (c := 4) (j := 4) rfl (by omega)).mpr rfl)]
    refine (congrArg (fun z => am_call z _) e1).trans ?_
    rw [am_call_s, am_toN, b103_17]
    refine (congrArg (fun z => am_call z _) e2').trans ?_
    rw [am_call_s, am_toN, b103_28, b103_140]
  by_cases k3 : k = 3 ∧ 25 ≤ v ∧ v ≤ 29
  · obtain ⟨rfl, va, vb⟩ := k3
    obtain ⟨v1, v2, v3⟩ := g.t3 rfl
    have ec : nI v ^^^ (-1) = l_cc (v - 24, 0) := by
      rcases (by omega : v = 25 ∨ v = 26 ∨ v = 27 ∨ v = 28 ∨ v = 29) with rfl | rfl | rfl | rfl | rfl <;> decide
    refine leaf (D := d + 4 * h + 2) g (by omega) (by omega) b (by omega) h61 hla hlb (v - 24, 0) (v - 24, (M 0 6).toInt) (EqV.env (by omega) (by omega) _ _) (Int32.ofInt_toInt _).symm (fun C2 C3 e1 e2 => ?_) (fun M2 M4 J4 e1 e2 => ?_) _ (by omega)
    · rw [b103_0, if_neg (fun z => by have := (g.ke (c := 4) (j := 4) rfl (by omega)).mp z; omega), if_pos ((g.ke (c := 3) (j := 3) rfl (by omega)).mpr rfl), v2, if_neg (show ¬ nI v < 25 from nI_nlt (b := 25) (by omega) (by omega)), if_neg (show ¬ (29 : Int32) < nI v from nI_nlt (a := 29) (by omega) (by omega))]
      refine (congrArg (fun z => am_call z _) e1).trans ?_
      rw [am_call_s, am_toN, b103_55, ec]
      refine (congrArg (fun z => am_call z _) e2).trans ?_
      rw [am_call_s, am_toN, b103_68, b103_140]
    · refine (m0.trans (m_op154 g1 (by omega) (by omega) (by omega) _ _ _)).trans ?_
      rcases (by omega : v = 25 ∨ v = 26 ∨ v = 27 ∨ v = 28 ∨ v = 29) with rfl | rfl | rfl | rfl | rfl
      · exact m_opE25 g1 _ _ e1 e2
      · exact m_opE26 g1 _ _ e1 e2
      · exact m_opE27 g1 _ _ e1 e2
      · exact m_opE28 g1 _ _ e1 e2
      · exact m_opE29 g1 _ _ e1 e2
  by_cases km : k = 3 ∧ (v = 30 ∨ v = 31)
  · obtain ⟨rfl, hv⟩ := km
    exact fac_mn IH ho hv g b h61 hla hlb hm d m0
  by_cases kp : k = 5 ∧ v = 40
  · obtain ⟨rfl, rfl⟩ := kp
    exact fac_pa IH ho g b h61 hla hlb hm d m0
  · have mB := (m0.trans (m_op154 g1 kp (by omega) (by omega) _ _ _)).trans (m_opX g1 k4 k3 _ _)
    have l1 := (Lp_op (e := e) (J := J) h61 (s := 1) (Or.inr rfl) mB).2 (by rw [Fmm_8]; decide)
    obtain ⟨b51, b57, b58, b39, b40, b43, bC, b50, b60⟩ := b
    have pn := g.pn
    have tk0 : Tk x o la lb m C M C (am_u2 M 41 o 0) [] [] [] := (Tk.rf bC b50 b60).sm (Sm.rf.uo (Or.inr rfl) 0)
    refine ⟨Fc C 1 p, _, J, ?_, Or.inr ⟨l1, ((tk0.cl (Fc_f C 1 p)).sm ((Fmm_f _ 1 p).sm.u0 (by omega) 1)).bdx (JF.rf _) ((g1.fl (by omega) (by omega)).wr (fun _ => rfl) (fun b hb => u2_p (by omega))) (by show la + 0 ≤ 1600; omega)⟩⟩
    refine (c_f71 g k4 (by omega) (nI o) (d + 4 * h + 4)).trans ?_
    refine (congrArg (fun z => am_call z _) (opnN (j := 40) g (by decide) kp (nI o) (d + 4 * h + 2))).trans ?_
    rw [am_call_s, am_toL, b103_123, if_pos rfl, b103_140]
theorem sums : ∀ h o, o + h = 8 → ArP T n x Jc o h 101 7 5 (3 * h + 3) 20 N5 := by
  intro h
  induction h with
  | zero => exact fun o ho => sum_all (prd_all (fac_all (fun h' z => by omega) ho) ho) ho
  | succ h ih => exact fun o ho => sum_all (prd_all (fac_all (fun h' z => by
      obtain rfl : h' = h := by omega
      exact ih (o + 1) (by omega)) ho) ho) ho
end LAI
