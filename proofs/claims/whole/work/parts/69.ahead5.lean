/-! the model keeps and takes back -/
section KB
variable {x : Bool} {C M : tI} {J Jc : tJ}
theorem m_keeps (d : Nat) (M : tI) (J : tJ) {nt : Nat} (e74 : M 0 74 = nI nt) (h60 : nt ≤ 60) : ∃ M1, am_G (am_ev (d + 1)) 266 [.ref 0] (M, J, tm_R, tm_S, 77, 21637) = some (none, (M1, J, tm_R, tm_S, 77, 21637)) ∧ (∀ a b, a ≠ 71 → a ≠ 72 → a ≠ 73 → ¬ (a = 0 ∧ b = 98) → M1 a b = M a b) ∧ M1 0 98 = M 0 65 ∧ (∀ t, t < nt → M1 71 (6 * t) = M 55 t ∧ M1 71 (6 * t + 1) = M 59 t ∧ M1 71 (6 * t + 2) = M 60 t ∧ M1 71 (6 * t + 3) = M 61 t ∧ M1 71 (6 * t + 4) = M 62 t) ∧ (∀ p, p < 4 → M1 72 (2 * p) = M 65 p ∧ M1 72 (2 * p + 1) = M 66 p) ∧ ∀ m, m < 8 → M1 73 m = M 67 m := by
  have one : ∀ k, k ≤ nt → ∃ D, am_ev (d + 1) 266 10 [.ref 0, .int (nI 0)] [] ((am_u2 M 0 98 (M 0 65)), J, tm_R, tm_S, 77, 21637) = am_ev (d + 1) 266 10 [.ref 0, .int (nI k)] [] (D, J, tm_R, tm_S, 77, 21637) ∧ (∀ a b, a ≠ 71 → D a b = am_u2 M 0 98 (M 0 65) a b) ∧ ∀ t, t < k → D 71 (6 * t) = M 55 t ∧ D 71 (6 * t + 1) = M 59 t ∧ D 71 (6 * t + 2) = M 60 t ∧ D 71 (6 * t + 3) = M 61 t ∧ D 71 (6 * t + 4) = M 62 t := by
    intro k
    induction k with
    | zero => intro _; exact ⟨_, rfl, fun _ _ _ => rfl, fun t ht => by omega⟩
    | succ k ih =>
      intro hk
      obtain ⟨D, a1, a2, a3⟩ := ih (by omega)
      have fD : ∀ a b, a ≠ 71 → a ≠ 0 → D a b = M a b := fun a b q1 q2 => by rw [a2 a b q1, u2_c q2]
      have i60 : am_in (nI k) 60 := nI_in (by omega) (by omega)
      have ck : (nI k).toNatClampNeg = k := nI_clamp (by omega)
      have m0 : (6 : Int32) * nI k = nI (6 * k) := nI_mul 6 k
      have m1 : nI (6 * k) + 1 = nI (6 * k + 1) := nI_add _ 1
      have m2 : nI (6 * k) + 2 = nI (6 * k + 2) := nI_add _ 2
      have m3 : nI (6 * k) + 3 = nI (6 * k + 3) := nI_add _ 3
      have m4 : nI (6 * k) + 4 = nI (6 * k + 4) := nI_add _ 4
      have c0 : (nI (6 * k)).toNatClampNeg = 6 * k := nI_clamp (by omega)
      have c1 : (nI (6 * k + 1)).toNatClampNeg = 6 * k + 1 := nI_clamp (by omega)
      have c2 : (nI (6 * k + 2)).toNatClampNeg = 6 * k + 2 := nI_clamp (by omega)
      have c3 : (nI (6 * k + 3)).toNatClampNeg = 6 * k + 3 := nI_clamp (by omega)
      have c4 : (nI (6 * k + 4)).toNatClampNeg = 6 * k + 4 := nI_clamp (by omega)
      have e7 : D 0 74 = nI nt := by rw [a2 _ _ (by omega), u2_p (by omega)]; exact e74
      have st := b266_10 d D J (nI k)
      rw [e7, if_neg (nI_ge (by omega) (by omega)), if_pos i60, m0, if_pos (nI_in (by omega) (by omega)), if_pos i60, m1, if_pos (nI_in (by omega) (by omega)), if_pos i60, m2, if_pos (nI_in (by omega) (by omega)), if_pos i60, m3, if_pos (nI_in (by omega) (by omega)), if_pos i60, m4, if_pos (nI_in (by omega) (by omega)), nI_1] at st
      simp only [ck, c0, c1, c2, c3, c4] at st
      rw [fD 55 k (by omega) (by omega), fD 59 k (by omega) (by omega), fD 60 k (by omega) (by omega), fD 61 k (by omega) (by omega), fD 62 k (by omega) (by omega)] at st
      refine ⟨_, a1.trans st, fun a b q => by rw [u2_c q, u2_c q, u2_c q, u2_c q, u2_c q]; exact a2 a b q, fun t ht => ?_⟩
      by_cases z : t = k
      · subst z
        refine ⟨?_, ?_, ?_, ?_, ?_⟩
        · rw [u2_p (by omega), u2_p (by omega), u2_p (by omega), u2_p (by omega), u2_s]
        · rw [u2_p (by omega), u2_p (by omega), u2_p (by omega), u2_s]
        · rw [u2_p (by omega), u2_p (by omega), u2_s]
        · rw [u2_p (by omega), u2_s]
        · rw [u2_s]
      · obtain ⟨b1, b2, b3, b4, b5⟩ := a3 t (by omega)
        have fu : ∀ j, j < 6 * k ∨ 6 * k + 4 < j → am_u2 (am_u2 (am_u2 (am_u2 (am_u2 D 71 (6 * k) (M 55 k)) 71 (6 * k + 1) (M 59 k)) 71 (6 * k + 2) (M 60 k)) 71 (6 * k + 3) (M 61 k)) 71 (6 * k + 4) (M 62 k) 71 j = D 71 j := fun j hj => by
          rw [u2_p (by omega), u2_p (by omega), u2_p (by omega), u2_p (by omega), u2_p (by omega)]
        rw [fu _ (by omega), fu _ (by omega), fu _ (by omega), fu _ (by omega), fu _ (by omega)]
        exact ⟨b1, b2, b3, b4, b5⟩
  obtain ⟨D, a1, a2, a3⟩ := one nt (Nat.le_refl _)
  have two : ∀ k, k ≤ 4 → ∃ E, am_ev (d + 1) 266 109 [.ref 0, .int (nI 0)] [] (D, J, tm_R, tm_S, 77, 21637) = am_ev (d + 1) 266 109 [.ref 0, .int (nI k)] [] (E, J, tm_R, tm_S, 77, 21637) ∧ (∀ a b, a ≠ 72 → E a b = D a b) ∧ ∀ p, p < k → E 72 (2 * p) = M 65 p ∧ E 72 (2 * p + 1) = M 66 p := by
    intro k
    induction k with
    | zero => intro _; exact ⟨_, rfl, fun _ _ _ => rfl, fun t ht => by omega⟩
    | succ k ih =>
      intro hk
      obtain ⟨E, b1, b2, b3⟩ := ih (by omega)
      have fE : ∀ a b, a ≠ 71 → a ≠ 72 → a ≠ 0 → E a b = M a b := fun a b q1 q2 q3 => by rw [b2 a b q2, a2 a b q1, u2_c q3]
      have i4 : am_in (nI k) 4 := nI_in (by omega) (by omega)
      have ck : (nI k).toNatClampNeg = k := nI_clamp (by omega)
      have m0 : (2 : Int32) * nI k = nI (2 * k) := nI_mul 2 k
      have m1 : nI (2 * k) + 1 = nI (2 * k + 1) := nI_add _ 1
      have c0 : (nI (2 * k)).toNatClampNeg = 2 * k := nI_clamp (by omega)
      have c1 : (nI (2 * k + 1)).toNatClampNeg = 2 * k + 1 := nI_clamp (by omega)
      have st := b266_109 d E J (nI k)
      rw [if_neg (show ¬ (4 : Int32) ≤ nI k from nI_ge (b := 4) (by omega) (by omega)), if_pos i4, m0, if_pos (nI_in (by omega) (by omega)), if_pos i4, m1, if_pos (nI_in (by omega) (by omega)), nI_1] at st
      simp only [ck, c0, c1] at st
      rw [fE 65 k (by omega) (by omega) (by omega), fE 66 k (by omega) (by omega) (by omega)] at st
      refine ⟨_, b1.trans st, fun a b q => by rw [u2_c q, u2_c q]; exact b2 a b q, fun t ht => ?_⟩
      by_cases z : t = k
      · subst z
        exact ⟨by rw [u2_p (by omega), u2_s], by rw [u2_s]⟩
      · rw [u2_p (by omega), u2_p (by omega), u2_p (by omega), u2_p (by omega)]
        exact b3 t (by omega)
  obtain ⟨E, b1, b2, b3⟩ := two 4 (Nat.le_refl _)
  have thr : ∀ k, k ≤ 8 → ∃ F, am_ev (d + 1) 266 152 [.ref 0, .int (nI 0)] [] (E, J, tm_R, tm_S, 77, 21637) = am_ev (d + 1) 266 152 [.ref 0, .int (nI k)] [] (F, J, tm_R, tm_S, 77, 21637) ∧ (∀ a b, a ≠ 73 → F a b = E a b) ∧ ∀ m, m < k → F 73 m = M 67 m := by
    intro k
    induction k with
    | zero => intro _; exact ⟨_, rfl, fun _ _ _ => rfl, fun t ht => by omega⟩
    | succ k ih =>
      intro hk
      obtain ⟨F, c1, c2, c3⟩ := ih (by omega)
      have i8 : am_in (nI k) 8 := nI_in (by omega) (by omega)
      have ck : (nI k).toNatClampNeg = k := nI_clamp (by omega)
      have e67 : F 67 k = M 67 k := by rw [c2 _ _ (by omega), b2 _ _ (by omega), a2 _ _ (by omega), u2_c (by omega)]
      have st := b266_152 d F J (nI k)
      rw [if_neg (show ¬ (8 : Int32) ≤ nI k from nI_ge (b := 8) (by omega) (by omega)), if_pos i8, if_pos i8, nI_1] at st
      simp only [ck] at st
      rw [e67] at st
      refine ⟨_, c1.trans st, fun a b q => by rw [u2_c q]; exact c2 a b q, fun t ht => ?_⟩
      by_cases z : t = k
      · subst z; rw [u2_s]
      · rw [u2_p (by omega)]; exact c3 t (by omega)
  obtain ⟨F, c1, c2, c3⟩ := thr 8 (Nat.le_refl _)
  have e7 : D 0 74 = nI nt := by rw [a2 _ _ (by omega), u2_p (by omega)]; exact e74
  refine ⟨F, ?_, fun a b q1 q2 q3 q4 => ?_, ?_, fun t ht => ?_, fun p hp => ?_, c3⟩
  · rw [b266_0]
    refine Eq.trans a1 ?_
    rw [b266_10, e7, if_pos (Int32.le_refl _)]
    refine Eq.trans b1 ?_
    rw [b266_109, if_pos (show (4 : Int32) ≤ nI 4 from Int32.le_refl _)]
    refine Eq.trans c1 ?_
    rw [b266_152, if_pos (show (8 : Int32) ≤ nI 8 from Int32.le_refl _)]
  · rw [c2 a b q3, b2 a b q2, a2 a b q1, fr1 (by omega)]
  · rw [c2 _ _ (by omega), b2 _ _ (by omega), a2 _ _ (by omega), u2_s]
  · simp only [c2 71 _ (by omega), b2 71 _ (by omega)]
    exact a3 t ht
  · simp only [c2 72 _ (by omega)]
    exact b3 p hp
theorem m_back (d : Nat) (M : tI) (J : tJ) {nt : Nat} (e74 : M 0 74 = nI nt) (h60 : nt ≤ 60) : ∃ M1, am_G (am_ev (d + 1)) 267 [.ref 0] (M, J, tm_R, tm_S, 77, 21637) = some (none, (M1, J, tm_R, tm_S, 77, 21637)) ∧ (∀ a b, ¬ (a = 0 ∧ b = 65) → (a = 55 ∨ a = 59 ∨ a = 60 ∨ a = 61 ∨ a = 62 → nt ≤ b) → (a = 65 ∨ a = 66 → 4 ≤ b) → (a = 67 → 8 ≤ b) → M1 a b = M a b) ∧ M1 0 65 = M 0 98 ∧ (∀ t, t < nt → M1 55 t = M 71 (6 * t) ∧ M1 59 t = M 71 (6 * t + 1) ∧ M1 60 t = M 71 (6 * t + 2) ∧ M1 61 t = M 71 (6 * t + 3) ∧ M1 62 t = M 71 (6 * t + 4)) ∧ (∀ p, p < 4 → M1 65 p = M 72 (2 * p) ∧ M1 66 p = M 72 (2 * p + 1)) ∧ ∀ m, m < 8 → M1 67 m = M 73 m := by
  have one : ∀ k, k ≤ nt → ∃ D, am_ev (d + 1) 267 10 [.ref 0, .int (nI 0)] [] ((am_u2 M 0 65 (M 0 98)), J, tm_R, tm_S, 77, 21637) = am_ev (d + 1) 267 10 [.ref 0, .int (nI k)] [] (D, J, tm_R, tm_S, 77, 21637) ∧ (∀ a b, (a = 55 ∨ a = 59 ∨ a = 60 ∨ a = 61 ∨ a = 62 → k ≤ b) → D a b = am_u2 M 0 65 (M 0 98) a b) ∧ ∀ t, t < k → D 55 t = M 71 (6 * t) ∧ D 59 t = M 71 (6 * t + 1) ∧ D 60 t = M 71 (6 * t + 2) ∧ D 61 t = M 71 (6 * t + 3) ∧ D 62 t = M 71 (6 * t + 4) := by
    intro k
    induction k with
    | zero => intro _; exact ⟨_, rfl, fun _ _ _ => rfl, fun t ht => by omega⟩
    | succ k ih =>
      intro hk
      obtain ⟨D, a1, a2, a3⟩ := ih (by omega)
      have fD : ∀ b, D 71 b = M 71 b := fun b => by rw [a2 71 b (by omega), u2_c (by omega)]
      have i60 : am_in (nI k) 60 := nI_in (by omega) (by omega)
      have ck : (nI k).toNatClampNeg = k := nI_clamp (by omega)
      have m0 : (6 : Int32) * nI k = nI (6 * k) := nI_mul 6 k
      have m1 : nI (6 * k) + 1 = nI (6 * k + 1) := nI_add _ 1
      have m2 : nI (6 * k) + 2 = nI (6 * k + 2) := nI_add _ 2
      have m3 : nI (6 * k) + 3 = nI (6 * k + 3) := nI_add _ 3
      have m4 : nI (6 * k) + 4 = nI (6 * k + 4) := nI_add _ 4
      have c0 : (nI (6 * k)).toNatClampNeg = 6 * k := nI_clamp (by omega)
      have c1 : (nI (6 * k + 1)).toNatClampNeg = 6 * k + 1 := nI_clamp (by omega)
      have c2 : (nI (6 * k + 2)).toNatClampNeg = 6 * k + 2 := nI_clamp (by omega)
      have c3 : (nI (6 * k + 3)).toNatClampNeg = 6 * k + 3 := nI_clamp (by omega)
      have c4 : (nI (6 * k + 4)).toNatClampNeg = 6 * k + 4 := nI_clamp (by omega)
      have e7 : D 0 74 = nI nt := by rw [a2 _ _ (by omega), u2_p (by omega)]; exact e74
      have st := b267_10 d D J (nI k)
      rw [e7, if_neg (nI_ge (by omega) (by omega)), m0, if_pos (nI_in (by omega) (by omega)), if_pos i60, m1, if_pos (nI_in (by omega) (by omega)), if_pos i60, m2, if_pos (nI_in (by omega) (by omega)), if_pos i60, m3, if_pos (nI_in (by omega) (by omega)), if_pos i60, m4, if_pos (nI_in (by omega) (by omega)), if_pos i60, nI_1] at st
      simp only [ck, c0, c1, c2, c3, c4, fD] at st
      refine ⟨_, a1.trans st, fun a b q => by rw [fr1 (by omega), fr1 (by omega), fr1 (by omega), fr1 (by omega), fr1 (by omega)]; exact a2 a b (fun w => by have := q w; omega), fun t ht => ?_⟩
      by_cases z : t = k
      · subst z
        refine ⟨?_, ?_, ?_, ?_, ?_⟩
        · rw [u2_c (by omega), u2_c (by omega), u2_c (by omega), u2_c (by omega), u2_s]
        · rw [u2_c (by omega), u2_c (by omega), u2_c (by omega), u2_s]
        · rw [u2_c (by omega), u2_c (by omega), u2_s]
        · rw [u2_c (by omega), u2_s]
        · rw [u2_s]
      · have fu : ∀ a, am_u2 (am_u2 (am_u2 (am_u2 (am_u2 D 55 k (M 71 (6 * k))) 59 k (M 71 (6 * k + 1))) 60 k (M 71 (6 * k + 2))) 61 k (M 71 (6 * k + 3))) 62 k (M 71 (6 * k + 4)) a t = D a t := fun a => by
          rw [u2_p z, u2_p z, u2_p z, u2_p z, u2_p z]
        rw [fu, fu, fu, fu, fu]
        exact a3 t (by omega)
  obtain ⟨D, a1, a2, a3⟩ := one nt (Nat.le_refl _)
  have two : ∀ k, k ≤ 4 → ∃ E, am_ev (d + 1) 267 109 [.ref 0, .int (nI 0)] [] (D, J, tm_R, tm_S, 77, 21637) = am_ev (d + 1) 267 109 [.ref 0, .int (nI k)] [] (E, J, tm_R, tm_S, 77, 21637) ∧ (∀ a b, (a = 65 ∨ a = 66 → k ≤ b) → E a b = D a b) ∧ ∀ p, p < k → E 65 p = M 72 (2 * p) ∧ E 66 p = M 72 (2 * p + 1) := by
    intro k
    induction k with
    | zero => intro _; exact ⟨_, rfl, fun _ _ _ => rfl, fun t ht => by omega⟩
    | succ k ih =>
      intro hk
      obtain ⟨E, b1, b2, b3⟩ := ih (by omega)
      have fE : ∀ b, E 72 b = M 72 b := fun b => by rw [b2 72 b (by omega), a2 72 b (by omega), u2_c (by omega)]
      have i4 : am_in (nI k) 4 := nI_in (by omega) (by omega)
      have ck : (nI k).toNatClampNeg = k := nI_clamp (by omega)
      have m0 : (2 : Int32) * nI k = nI (2 * k) := nI_mul 2 k
      have m1 : nI (2 * k) + 1 = nI (2 * k + 1) := nI_add _ 1
      have c0 : (nI (2 * k)).toNatClampNeg = 2 * k := nI_clamp (by omega)
      have c1 : (nI (2 * k + 1)).toNatClampNeg = 2 * k + 1 := nI_clamp (by omega)
      have st := b267_109 d E J (nI k)
      rw [if_neg (show ¬ (4 : Int32) ≤ nI k from nI_ge (b := 4) (by omega) (by omega)), m0, if_pos (nI_in (by omega) (by omega)), if_pos i4, m1, if_pos (nI_in (by omega) (by omega)), if_pos i4, nI_1] at st
      simp only [ck, c0, c1, fE] at st
      refine ⟨_, b1.trans st, fun a b q => by rw [fr1 (by omega), fr1 (by omega)]; exact b2 a b (fun w => by have := q w; omega), fun t ht => ?_⟩
      by_cases z : t = k
      · subst z
        exact ⟨by rw [u2_c (by omega), u2_s], by rw [u2_s]⟩
      · rw [u2_p z, u2_p z, u2_p z, u2_p z]
        exact b3 t (by omega)
  obtain ⟨E, b1, b2, b3⟩ := two 4 (Nat.le_refl _)
  have thr : ∀ k, k ≤ 8 → ∃ F, am_ev (d + 1) 267 152 [.ref 0, .int (nI 0)] [] (E, J, tm_R, tm_S, 77, 21637) = am_ev (d + 1) 267 152 [.ref 0, .int (nI k)] [] (F, J, tm_R, tm_S, 77, 21637) ∧ (∀ a b, (a = 67 → k ≤ b) → F a b = E a b) ∧ ∀ m, m < k → F 67 m = M 73 m := by
    intro k
    induction k with
    | zero => intro _; exact ⟨_, rfl, fun _ _ _ => rfl, fun t ht => by omega⟩
    | succ k ih =>
      intro hk
      obtain ⟨F, c1, c2, c3⟩ := ih (by omega)
      have i8 : am_in (nI k) 8 := nI_in (by omega) (by omega)
      have ck : (nI k).toNatClampNeg = k := nI_clamp (by omega)
      have e73 : F 73 k = M 73 k := by rw [c2 _ _ (by omega), b2 _ _ (by omega), a2 _ _ (by omega), u2_c (by omega)]
      have st := b267_152 d F J (nI k)
      rw [if_neg (show ¬ (8 : Int32) ≤ nI k from nI_ge (b := 8) (by omega) (by omega)), if_pos i8, if_pos i8, nI_1] at st
      simp only [ck] at st
      rw [e73] at st
      refine ⟨_, c1.trans st, fun a b q => by rw [fr1 (by omega)]; exact c2 a b (fun w => by have := q w; omega), fun t ht => ?_⟩
      by_cases z : t = k
      · subst z; rw [u2_s]
      · rw [u2_p z]; exact c3 t (by omega)
  obtain ⟨F, c1, c2, c3⟩ := thr 8 (Nat.le_refl _)
  have e7 : D 0 74 = nI nt := by rw [a2 _ _ (by omega), u2_p (by omega)]; exact e74
  refine ⟨F, ?_, fun a b q1 q2 q3 q4 => ?_, ?_, fun t ht => ?_, fun p hp => ?_, c3⟩
  · rw [b267_0]
    refine Eq.trans a1 ?_
    rw [b267_10, e7, if_pos (Int32.le_refl _)]
    refine Eq.trans b1 ?_
    rw [b267_109, if_pos (show (4 : Int32) ≤ nI 4 from Int32.le_refl _)]
    refine Eq.trans c1 ?_
    rw [b267_152, if_pos (show (8 : Int32) ≤ nI 8 from Int32.le_refl _)]
  · rw [c2 a b q4, b2 a b q3, a2 a b q2, fr1 (by omega)]
  · rw [c2 _ _ (by omega), b2 _ _ (by omega), a2 _ _ (by omega), u2_s]
  · rw [c2 55 t (by omega), b2 55 t (by omega), c2 59 t (by omega), b2 59 t (by omega), c2 60 t (by omega), b2 60 t (by omega), c2 61 t (by omega), b2 61 t (by omega), c2 62 t (by omega), b2 62 t (by omega)]
    exact a3 t ht
  · rw [c2 65 p (by omega), c2 66 p (by omega)]
    exact b3 p hp
end KB
