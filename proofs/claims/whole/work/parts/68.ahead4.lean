/-! the class's copy of the floor -/
section CP
variable {x : Bool} {C M : tI} {J Jc : tJ}
def cuA (C : tI) (x : Bool) (t : Nat) : Int32 := if C 82 t = 1 ∨ C 82 t = 2 then C (150 + 2 * t) 6 + C (tc_P x + 13) (Int32.toNatClampNeg (C (150 + 2 * t) 0)) else -1
def frA (C : tI) (p : Nat) : Int32 := if C (270 + p) 1 = -1 then C 41 1 else C (270 + p) 2
theorem c_copy (d : Nat) (C : tI) (J : tJ) (x : Bool) {nt : Nat} (e10 : C 41 10 = nI nt) (h60 : nt ≤ 60) (hs : ∀ t, t < nt → bd (C (150 + 2 * t) 0) 5) : ∃ C1, am_G (am_ev (d + 2)) 2 [.ref 274, .ref 41] (C, J, (tc_R x), tc_S, 289, 11479) = some (none, (C1, J, (tc_R x), tc_S, 289, 11479)) ∧ StC C C1 ∧ (∀ p, p < 4 → C1 275 p = -1 ∧ C1 276 p = frA C p) ∧ (∀ m, m < 8 → C1 277 m = C 85 m) ∧ ∀ t, t < nt → C1 278 t = C 82 t ∧ C1 279 t = cuA C x t := by
  have hx := tc_P4 x
  have f0 := c_fill (d := d) C J x (a := 275) (n := 4) (-1) (by decide +kernel) (by omega) (by omega)
  have fl : ∀ a b, a ≠ 275 → fillC C 275 4 (-1) a b = C a b := fun a b q => if_neg (fun w => q w.1)
  have one : ∀ k, k ≤ 4 → ∃ D, am_ev (d + 2) 2 10 [.ref 274, .ref 41, .int (nI 0), am_un] [] ((fillC C 275 4 (-1)), J, (tc_R x), tc_S, 289, 11479) = am_ev (d + 2) 2 10 [.ref 274, .ref 41, .int (nI k), am_un] [] (D, J, (tc_R x), tc_S, 289, 11479) ∧ (∀ a b, a ≠ 276 → D a b = fillC C 275 4 (-1) a b) ∧ ∀ p, p < k → D 276 p = frA C p := by
    intro k
    induction k with
    | zero => intro _; exact ⟨_, rfl, fun _ _ _ => rfl, fun p hp => by omega⟩
    | succ k ih =>
      intro hk
      obtain ⟨D, a1, a2, a3⟩ := ih (by omega)
      have i4 : am_in (nI k) 4 := nI_in (by omega) (by omega)
      have ck : (nI k).toNatClampNeg = k := nI_clamp (by omega)
      have hkk := tp_k (k := k) (by omega)
      have st := b2_10 (d + 1) D J x (nI k) am_un
      rw [if_neg (show ¬ (4 : Int32) ≤ nI k from nI_ge (b := 4) (by omega) (by omega)), if_pos i4] at st
      simp only [ck, nI_1] at st
      rw [if_pos hkk, a2 (270 + k) 1 (by omega), fl (270 + k) 1 (by omega)] at st
      have fin : ∀ v, v = frA C k → (∀ a b, a ≠ 276 → am_u2 D 276 k v a b = fillC C 275 4 (-1) a b) ∧ ∀ p, p < k + 1 → am_u2 D 276 k v 276 p = frA C p := by
        intro v hv
        refine ⟨fun a b q => by rw [u2_c q]; exact a2 a b q, fun p hp => ?_⟩
        by_cases z : p = k
        · subst z; rw [u2_s]; exact hv
        · rw [u2_p z]; exact a3 p (by omega)
      by_cases q : C (270 + k) 1 = -1
      · rw [if_pos q, if_pos i4, a2 41 1 (by omega), fl 41 1 (by omega)] at st
        exact ⟨_, a1.trans st, fin _ (by unfold frA; rw [if_pos q])⟩
      · rw [if_neg q, if_pos i4, if_pos hkk, if_pos i4, a2 (270 + k) 2 (by omega), fl (270 + k) 2 (by omega)] at st
        exact ⟨_, a1.trans st, fin _ (by unfold frA; rw [if_neg q])⟩
  obtain ⟨D, a1, a2, a3⟩ := one 4 (Nat.le_refl _)
  have s85 : tc_S 85 = (20, 8) := by decide +kernel
  have s277 : tc_S 277 = (20, 8) := by decide +kernel
  have s82 : tc_S 82 = (20, 60) := by decide +kernel
  have s278 : tc_S 278 = (20, 60) := by decide +kernel
  have c0 : Int32.toNatClampNeg 0 = 0 := rfl
  have c8 : Int32.toNatClampNeg 8 = 8 := rfl
  have c60 : Int32.toNatClampNeg 60 = 60 := rfl
  have cp : ∃ D2, am_ev (d + 2) 2 10 [.ref 274, .ref 41, .int (nI 4), am_un] [] (D, J, (tc_R x), tc_S, 289, 11479) = am_ev (d + 2) 2 88 [.ref 274, .ref 41, .int (nI 0), am_un] [] (D2, J, (tc_R x), tc_S, 289, 11479) ∧ (∀ a b, a ≠ 277 → a ≠ 278 → D2 a b = D a b) ∧ (∀ m, m < 8 → D2 277 m = D 85 m) ∧ ∀ t, t < 60 → D2 278 t = D 82 t := by
    have st := b2_10 (d + 1) D J x (nI 4) am_un
    rw [if_pos (show (4 : Int32) ≤ nI 4 from Int32.le_refl _), if_pos (by
      refine ⟨⟨by show (tc_S 85).1 = 20; rw [s85], by show 85 < 289; omega⟩, ⟨by show (tc_S 277).1 = 20; rw [s277], by show 277 < 289; omega⟩, by omega, by decide, by decide, by decide, by rw [s85]; decide, by rw [s277]; decide, by decide⟩), if_pos (by
      refine ⟨⟨by show (tc_S 82).1 = 20; rw [s82], by show 82 < 289; omega⟩, ⟨by show (tc_S 278).1 = 20; rw [s278], by show 278 < 289; omega⟩, by omega, by decide, by decide, by decide, by rw [s82]; decide, by rw [s278]; decide, by decide⟩)] at st
    refine ⟨_, st, fun a b q1 q2 => ?_, fun m hm => ?_, fun t ht => ?_⟩
    · unfold am_row
      rw [if_neg q2, if_neg q1]
    · unfold am_row
      rw [if_neg (show ¬ 277 = 278 by omega), if_pos rfl, c0, c8]
      unfold va_cpy
      rw [if_pos ⟨by omega, by omega⟩, Nat.zero_add, Nat.sub_zero]
    · unfold am_row
      rw [if_pos rfl, c0, c60]
      unfold va_cpy
      rw [if_pos ⟨by omega, by omega⟩]
      show (if 82 = 277 then _ else D 82 (0 + (t - 0))) = _
      rw [if_neg (by omega), Nat.zero_add, Nat.sub_zero]
  obtain ⟨D2, b1, b2, b3, b4⟩ := cp
  have two : ∀ k, k ≤ nt → ∃ E v3, am_ev (d + 2) 2 88 [.ref 274, .ref 41, .int (nI 0), am_un] [] (D2, J, (tc_R x), tc_S, 289, 11479) = am_ev (d + 2) 2 88 [.ref 274, .ref 41, .int (nI k), v3] [] (E, J, (tc_R x), tc_S, 289, 11479) ∧ (∀ a b, a ≠ 279 → E a b = D2 a b) ∧ ∀ t, t < k → E 279 t = cuA C x t := by
    intro k
    induction k with
    | zero => intro _; exact ⟨_, _, rfl, fun _ _ _ => rfl, fun p hp => by omega⟩
    | succ k ih =>
      intro hk
      obtain ⟨E, v3, g1, g2, g3⟩ := ih (by omega)
      have i60 : am_in (nI k) 60 := nI_in (by omega) (by omega)
      have ck : (nI k).toNatClampNeg = k := nI_clamp (by omega)
      have htk := tt_k (k := k) (by omega)
      have all : ∀ a b, a < 275 ∨ 279 < a → E a b = C a b := fun a b q => by rw [g2 a b (by omega), b2 a b (by omega) (by omega), a2 a b (by omega), fl a b (by omega)]
      have e78 : E 278 k = C 82 k := by rw [g2 _ _ (by omega), b4 k (by omega), a2 _ _ (by omega), fl _ _ (by omega)]
      have st := b2_88 (d + 1) E J x (nI k) v3
      rw [all 41 10 (by omega), e10, if_neg (nI_ge (by omega) (by omega)), if_pos i60] at st
      simp only [ck] at st
      rw [e78] at st
      have fin : ∀ v, v = cuA C x k → (∀ a b, a ≠ 279 → am_u2 E 279 k v a b = D2 a b) ∧ ∀ p, p < k + 1 → am_u2 E 279 k v 279 p = cuA C x p := by
        intro v hv
        refine ⟨fun a b q => by rw [u2_c q]; exact g2 a b q, fun p hp => ?_⟩
        by_cases z : p = k
        · subst z; rw [u2_s]; exact hv
        · rw [u2_p z]; exact g3 p (by omega)
      have yes : C 82 k = 1 ∨ C 82 k = 2 → ∃ v, am_ev (d + 2) 2 116 [.ref 274, .ref 41, .int (nI k), v3] [] (E, J, (tc_R x), tc_S, 289, 11479) = am_ev (d + 2) 2 88 [.ref 274, .ref 41, .int (nI (k + 1)), .int 1] [] ((am_u2 E 279 k v), J, (tc_R x), tc_S, 289, 11479) ∧ v = cuA C x k := by
        intro q
        obtain ⟨z, hz, ez⟩ := hs k (by omega)
        refine ⟨C (150 + 2 * k) 6 + C (tc_P x + 13) (Int32.toNatClampNeg (C (150 + 2 * k) 0)), ?_, by unfold cuA; rw [if_pos q]⟩
        have s2 := b33_0 d E J x (nI k)
        rw [if_pos i60] at s2
        simp only [ck] at s2
        rw [if_pos htk, if_pos i60, if_pos htk, all (150 + 2 * k) 0 (by omega), all (150 + 2 * k) 6 (by omega), all (tc_P x + 13) _ (by omega), if_pos (by rw [ez]; exact nI_in (by omega) (by omega))] at s2
        rw [b2_116, b2_121, if_neg (by decide : ¬ (1 : Int32) = 0), s2, am_call_s, am_toL, b2_136, if_pos i60, nI_1]
        simp only [ck]
      by_cases q1 : C 82 k = 1
      · rw [if_pos q1] at st
        obtain ⟨v, y1, y2⟩ := yes (Or.inl q1)
        exact ⟨_, _, g1.trans (st.trans y1), fin v y2⟩
      · rw [if_neg q1, if_pos i60] at st
        by_cases q2 : C 82 k = 2
        · rw [if_pos q2] at st
          obtain ⟨v, y1, y2⟩ := yes (Or.inr q2)
          exact ⟨_, _, g1.trans (st.trans y1), fin v y2⟩
        · rw [if_neg q2, b2_121, if_pos rfl, if_pos i60, nI_1] at st
          simp only [ck] at st
          exact ⟨_, _, g1.trans st, fin (-1) (by unfold cuA; rw [if_neg (fun w => w.elim q1 q2)])⟩
  obtain ⟨E, v3, g1, g2, g3⟩ := two nt (Nat.le_refl _)
  have all : ∀ a b, a < 275 ∨ 279 < a → E a b = C a b := fun a b q => by rw [g2 a b (by omega), b2 a b (by omega) (by omega), a2 a b (by omega), fl a b (by omega)]
  refine ⟨E, ?_, all, fun p hp => ⟨?_, ?_⟩, fun m hm => ?_, fun t ht => ⟨?_, g3 t ht⟩⟩
  · rw [b2_0, f0, am_call_s, am_toN, b2_8]
    refine Eq.trans a1 (b1.trans (g1.trans ?_))
    rw [b2_88, all 41 10 (by omega), e10, if_pos (Int32.le_refl _)]
  · rw [g2 _ _ (by omega), b2 _ _ (by omega) (by omega), a2 _ _ (by omega)]; exact if_pos ⟨rfl, hp⟩
  · rw [g2 _ _ (by omega), b2 _ _ (by omega) (by omega)]; exact a3 p hp
  · rw [g2 _ _ (by omega), b3 m hm, a2 _ _ (by omega), fl _ _ (by omega)]
  · rw [g2 _ _ (by omega), b4 t (by omega), a2 _ _ (by omega), fl _ _ (by omega)]
end CP
