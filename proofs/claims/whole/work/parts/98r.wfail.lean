/-! WORKS: the text is at fault; the plan that was read -/
section WFL
variable {x y : Bool} {C M C' M' : tI} {J J' Jc : tJ} {N : Nat → Nat} {la lb : Nat}
theorem bk_dis (x : Bool) {s k : Nat} (hk : k < s) : ¬ (s * xb (!x) ≤ s * xb x + k ∧ s * xb x + k < s * xb (!x) + s) := by
  have e0 : xb false = 0 := rfl
  have e1 : xb true = 1 := rfl
  cases x
  · rw [show xb (!false) = 1 from rfl, e0, Nat.mul_zero, Nat.mul_one]; omega
  · rw [show xb (!true) = 0 from rfl, e1, Nat.mul_zero, Nat.mul_one]; omega
theorem sdd_0 {a b j : Nat} (h : sdd a = 1) (hj : j = b) : sdd a * b ≤ j ∧ j < sdd a * b + sdd a := by
  rw [h, hj]; omega
/-- what reading leaves alone -/
theorem Rdd.fM (h : RM (!x) (mI M (xb (!x))) M') {a j : Nat} (h1 : ¬ (a = 0 ∧ (j ≤ 9 ∨ (50 ≤ j ∧ j ≤ 61)))) (h2 : ¬ (2 ≤ a ∧ a ≤ 38 ∧ sdd a * xb (!x) ≤ j ∧ j < sdd a * xb (!x) + sdd a)) (h3 : ¬ (39 ≤ a ∧ a ≤ 44)) : M' a j = M a j := by
  rw [h a j (by omega) h2 h3]
  refine mI_f M _ (by omega) (fun a1 a2 a3 hj => h2 ⟨a1, a2, sdd_0 a3 hj⟩)
theorem Rdd.m01 (h : RM (!x) (mI M (xb (!x))) M') : M' 0 1 = 0 := by
  rw [h 0 1 (by omega) (by omega) (by omega)]
  exact (mI_0 M _).2.1
/-- the relation after a text at fault -/
theorem Rl.wf (h : Rl x C M J) (rc : RC (!x) C C') (rm : RM (!x) (mI M (xb (!x))) M') (rj : RJ (!x) J J') {f p0 : Nat} (m8 : M' 0 8 = nI f) (m9 : M' 0 9 = nI p0) (c7 : C' 1 7 = nI f) (c8 : C' 1 8 = nI p0) : Rl x (am_u2 (am_u2 C' 1 2 0) 288 1 (am_u2 C' 1 2 0 288 1 + 1)) (am_u2 (am_u2 (am_u2 M' 0 10 (M' 0 8)) 0 11 (M' 0 9)) 45 1 (am_u2 (am_u2 M' 0 10 (M' 0 8)) 0 11 (M' 0 9) 45 1 + 1)) J' := by
  have n74 := h.n74
  have hPP := tc_PP x
  have cF : ∀ a b, ¬ (a = 1 ∧ 2 ≤ b) → ¬ (tc_P (!x) ≤ a ∧ a ≤ tc_P (!x) + 36) → a ≠ 288 → am_u2 (am_u2 C' 1 2 0) 288 1 (am_u2 C' 1 2 0 288 1 + 1) a b = C a b := fun a b h1 h2 h3 => by
    rw [u2_c h3, fr1 (by omega)]; exact rc a b (by omega) h2
  have mF : ∀ a j, ¬ (a = 0 ∧ (j ≤ 11 ∨ (50 ≤ j ∧ j ≤ 61))) → ¬ (2 ≤ a ∧ a ≤ 38 ∧ sdd a * xb (!x) ≤ j ∧ j < sdd a * xb (!x) + sdd a) → ¬ (39 ≤ a ∧ a ≤ 45) → am_u2 (am_u2 (am_u2 M' 0 10 (M' 0 8)) 0 11 (M' 0 9)) 45 1 (am_u2 (am_u2 M' 0 10 (M' 0 8)) 0 11 (M' 0 9) 45 1 + 1) a j = M a j := fun a j h1 h2 h3 => by
    rw [u2_c (by omega), fr1 (by omega), fr1 (by omega)]
    exact Rdd.fM rm (by omega) h2 (by omega)
  have c288 : ∀ b, C' 288 b = C 288 b := fun b => rc 288 b (by omega) (by omega)
  have m45 : ∀ b, M' 45 b = M 45 b := fun b => Rdd.fM rm (by omega) (by omega) (by omega)
  have bk : bkM x M (am_u2 (am_u2 (am_u2 M' 0 10 (M' 0 8)) 0 11 (M' 0 9)) 45 1 (am_u2 (am_u2 M' 0 10 (M' 0 8)) 0 11 (M' 0 9) 45 1 + 1)) := fun a k h1 h2 h3 => mF a _ (by omega) (fun z => bk_dis x h3 z.2.2) (by omega)
  obtain ⟨hB, hT, hF, hN, hW, hO, hV, hOw, hP, hH⟩ := h
  refine ⟨?_, ⟨?_, ?_, fun j hj => ?_⟩, ⟨?_, ?_⟩, fun j hj => ?_, ?_, ?_, ?_, ?_, ?_, ?_⟩
  · rw [mF 0 12 (by omega) (by omega) (by omega)]; exact hB
  · rw [u2_c (by omega), u2_s, u2_c (by omega), u2_p (by omega), u2_p (by omega)]; exact (Rdd.m01 rm).symm
  · rw [u2_c (by omega), u2_p (by omega), u2_p (by omega), Rdd.m01 rm]; exact ⟨0, by omega, rfl⟩
  · rw [cF 3 j (by omega) (by omega) (by omega), mF 1 j (by omega) (by omega) (by omega)]; exact hT.2.2 j hj
  · rw [u2_c (by omega), u2_p (by omega), u2_c (by omega), u2_p (by omega), u2_s, c7, m8]
  · rw [u2_c (by omega), u2_p (by omega), u2_c (by omega), u2_s, c8, m9]
  · have e1 : am_u2 C' 1 2 0 288 1 = C 288 1 := by rw [u2_c (by omega)]; exact c288 1
    have e2 : am_u2 (am_u2 M' 0 10 (M' 0 8)) 0 11 (M' 0 9) 45 1 = M 45 1 := by rw [u2_c (by omega), u2_c (by omega)]; exact m45 1
    by_cases z : j = 1
    · subst z
      rw [u2_s, u2_s, e1, e2, hN 1 (by omega)]
    · rw [u2_p z, u2_p z, u2_c (by omega), u2_c (by omega), u2_c (by omega), c288, m45]; exact hN j hj
  · exact hW.fr (cF 0 8 (by omega) (by omega) (by omega)) (mF 0 91 (by omega) (by omega) (by omega))
  · exact hO.fr (fun a b z => cF a b (by omega) (by omega) (by omega)) (fun a b z => mF a b (by omega) (by omega) (by omega))
  · exact hV.fr n74 (fun a b z => cF a b (by omega) (by omega) (by omega)) (fun a b z => mF a b (by omega) (by omega) (by omega))
  · exact hOw.fr (fun b => cF 2 b (by omega) (by omega) (by omega))
  · exact hP.bk (fun a b z1 z2 => cF a b (by omega) (by omega) (by omega)) bk (fun q k hq hk => rj _ _ (fun z => jk_0 (j := 7) hq z.1 rfl) (fun z => by
      have e : sdd (jk q) = kx q := by rcases q5 hq with rfl | rfl | rfl | rfl | rfl <;> rfl
      rw [e] at z
      exact bk_dis x hk z.2.2))
  · exact hH.bk n74 (fun a b z => cF a b (by omega) (by omega) (by omega)) bk (fun b hb => mF 0 b (by omega) (by omega) (by omega)) (fun a b hb => mF a b (by omega) (by omega) (by omega))
/-- the plan that was read, as the relation has it -/
theorem PL.rlP (h : PL x N la lb C M J) (hla : la ≤ 1600) (hlb : lb ≤ 1600) : rl_P (!x) C M J := by
  obtain ⟨h1, ⟨g1, g2, g3, g4, g5, g6, g7, g8, g9, g10⟩, h3⟩ := h
  have c0 : Int32.toNatClampNeg (M 2 (xb (!x))) = N 0 := h1.cn (q := 0) (by omega)
  have c1 : Int32.toNatClampNeg (M 6 (xb (!x))) = N 1 := h1.cn (q := 1) (by omega)
  have c2 : Int32.toNatClampNeg (M 11 (xb (!x))) = N 2 := h1.cn (q := 2) (by omega)
  have c3 : Int32.toNatClampNeg (M 20 (xb (!x))) = N 3 := h1.cn (q := 3) (by omega)
  have c4 : Int32.toNatClampNeg (M 22 (xb (!x))) = N 4 := h1.cn (q := 4) (by omega)
  have c5 : Int32.toNatClampNeg (M 26 (xb (!x))) = N 5 := h1.cn (q := 5) (by omega)
  have c6 : Int32.toNatClampNeg (M 34 (xb (!x))) = N 6 := h1.cn (q := 6) (by omega)
  have c7 : Int32.toNatClampNeg (M 14 (xb (!x))) = N 7 := h1.cn (q := 7) (by omega)
  have n0 : N 0 ≤ 6 := (h1 0 (by omega)).2.2
  have n1 : N 1 ≤ 8 := (h1 1 (by omega)).2.2
  have n2 : N 2 ≤ 6 := (h1 2 (by omega)).2.2
  have cl : ∀ a : Nat, a < 100000 → Int32.toNatClampNeg (nI a) = a := fun a ha => nI_clamp (by omega)
  refine ⟨cn9 _ h1, ⟨fun k hk => ?_, fun k hk => ?_, fun k hk => ?_, fun k hk => ?_, fun k hk => ?_⟩, fun k hk => ?_, fun k hk => ?_, fun k hk => ?_, ⟨fun s q hs hq => ?_, fun k hk => ?_, fun k l hk hl => ?_⟩, ⟨fun a c ha hc hh _ => ?_, fun a c ha hc hne => ?_, fun a c ha hc => ?_⟩, ⟨fun k hk => ?_, fun k hk => ?_⟩, fun _ => ?_, fun k hk => ?_⟩
  · exact g1 0 k (by omega) (by omega)
  · exact g1 1 k (by omega) (by omega)
  · exact g1 2 k (by omega) (by omega)
  · exact g1 3 k (by omega) (by omega)
  · exact g1 4 k (by omega) (by omega)
  · obtain ⟨r, s, a1, a2, a3, a4, a5, a6⟩ := g2 k (by omega)
    rw [a1, a2, a3, a4, cl r (by omega), cl s (by omega)]
    exact ⟨rfl, rfl, bd_nI (by omega), bd_nI (by omega), a5⟩
  · obtain ⟨a, t, w, a1, a2, a3, a4, a5, a6, a7, a8, a9, a10, a11⟩ := g3 k (by omega)
    rw [a1, a2, a3, a4, a5, a6, cl a (by omega), cl t (by omega), cl w (by omega), c0]
    exact ⟨rfl, rfl, rfl, bd_nI (by omega), a7, bd_nI (by omega), a8, bd_nI (by omega), a10⟩
  · obtain ⟨c, a1, a2, a3, a4⟩ := g4 k (by omega)
    rw [a1, a2, cl c (by omega)]
    exact ⟨rfl, bd_nI (by omega), a3⟩
  · rw [c7]; exact g5.1 s q hs hq
  · obtain ⟨s, q, m, a1, a2, a3, a4, a5, a6, a7⟩ := g5.2.1 k (by omega)
    rw [a1, a2, a3, cl s (by omega), cl q (by omega), cl m (by omega), c2, c1]
    exact ⟨bd_nI (by omega), a4, bd_nI (by omega), a5, bd_nI (by omega), a6⟩
  · exact g5.2.2 k l hk (by omega)
  · exact g6.1 a c ha hc (by omega)
  · obtain ⟨m, a1, a2, a3, a4⟩ := g6.2 a c (by omega) (by omega)
    rw [a1]; exact a4 hne
  · obtain ⟨m, a1, a2, a3, a4⟩ := g6.2 a c (by omega) (by omega)
    rw [a1]
    exact ⟨bd_nI (by omega), fun z => by rw [a3 z]; rfl⟩
  · obtain ⟨a, t, a1, a2, a3, a4, a5, a6, a7⟩ := g7 k (by omega)
    rw [a1, a2, a3, a4, cl a (by omega), cl t (by omega), c2]
    exact ⟨rfl, rfl, bd_nI (by omega), a5, bd_nI (by omega), a6⟩
  · obtain ⟨a, t, w, a1, a2, a3, a4, a5, a6, a7, a8, a9, a10⟩ := g8 k (by omega)
    rw [a1, a2, a3, a4, a5, a6, cl a (by omega), cl t (by omega), c2]
    exact ⟨rfl, rfl, rfl, bd_nI (by omega), a7, bd_nI (by omega), a8, bd_nI (by omega)⟩
  · obtain ⟨a, b, c, d, a1, a2, a3, a4, a5, a6, a7, a8, a9, a10, a11, a12, a13⟩ := g9
    rw [a1, a2, a3, a4, a5, a6, a7, a8, cl a (by omega)]
    exact ⟨rfl, rfl, rfl, rfl, bd_nI (by omega), a9, bd_nI (by omega), bd_nI (by omega), bd_nI (by omega)⟩
  · obtain ⟨A, B, s, f, a1, a2, a3, a4, a5, a6, a7, a8, a9⟩ := g10.2.2.2 k (by omega)
    exact ⟨A, B, s, f, a1, a2, by omega, a4, a5, by omega, a7, a8, a9⟩
end WFL
