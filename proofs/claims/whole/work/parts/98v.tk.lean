/-! LAWS: how far both have come with a code: the class has written A from la on, the model B from lb on and holds Q back from m on -/
theorem gd_l {α : Type} {A B : List α} {i : Nat} {d : α} (h : i < A.length) : (A ++ B).getD i d = A.getD i d := by
  simp [List.getD_eq_getElem?_getD, List.getElem?_append_left h]
theorem gd_r {α : Type} {A B : List α} {i : Nat} {d : α} (h : A.length ≤ i) : (A ++ B).getD i d = B.getD (i - A.length) d := by
  simp [List.getD_eq_getElem?_getD, List.getElem?_append_right h]
theorem gd_1 {α : Type} {A : List α} {c d : α} : (A ++ [c]).getD A.length d = c := by
  rw [gd_r (Nat.le_refl _), Nat.sub_self]; rfl
def Tk (x : Bool) (o la lb m : Nat) (C M C' M' : tI) (A B : List (Nat × Int)) (Q : List Nat) : Prop :=
  (∀ a b, ¬ (a = 1 ∧ 3 ≤ b) → ¬ (a = tc_P (!x) + 33 ∧ b = 2) → ¬ (a = tc_P (!x) + 34 ∧ la ≤ b) → C' a b = C a b) ∧
  (∀ a j, ¬ (a = 0 ∧ ((3 ≤ j ∧ j ≤ 9) ∨ j = 50 ∨ (57 ≤ j ∧ j ≤ 61))) → ¬ ((a = 37 ∨ a = 38) ∧ 1600 * xb (!x) + lb ≤ j ∧ j < 1600 * xb (!x) + 1600) → ¬ (39 ≤ a ∧ a ≤ 43 ∧ o < j) → ¬ ((a = 40 ∨ a = 41) ∧ j = o) → ¬ (a = 44 ∧ m ≤ j) → M' a j = M a j) ∧
  C' (tc_P (!x) + 33) 2 = nI (la + A.length) ∧ l_atC C' (tc_P (!x)) la A ∧ M' 0 50 = nI (lb + B.length) ∧ l_atM M' (xb (!x)) lb B ∧ M' 0 60 = nI (m + Q.length) ∧ ∀ i, i < Q.length → M' 44 (m + i) = nI (Q.getD i 0)
/-- the model's steps that leave codes and held-back ones alone -/
def Sm (o : Nat) (M M' : tI) : Prop := ∀ a j, ¬ (a = 0 ∧ ((3 ≤ j ∧ j ≤ 9) ∨ (57 ≤ j ∧ j ≤ 59) ∨ j = 61)) → ¬ (39 ≤ a ∧ a ≤ 43 ∧ o < j) → ¬ ((a = 40 ∨ a = 41) ∧ j = o) → M' a j = M a j
section TKK
variable {x : Bool} {o la lb m : Nat} {C M C' M' C2 M2 : tI} {J J' Jc : tJ} {A B A2 B2 : List (Nat × Int)} {Q Q2 : List Nat}
theorem Sm.rf : Sm o M M := fun _ _ _ _ _ => rfl
theorem Sm.tr (h : Sm o M M') (h2 : Sm o M' M2) : Sm o M M2 := fun a j z1 z2 z3 => (h2 a j z1 z2 z3).trans (h a j z1 z2 z3)
theorem Sm.u0 (h : Sm o M M') {j : Nat} (hj : (3 ≤ j ∧ j ≤ 9) ∨ (57 ≤ j ∧ j ≤ 59) ∨ j = 61) (u : Int32) : Sm o M (am_u2 M' 0 j u) := fun a b z1 z2 z3 => by
  rw [fr1 (by omega)]; exact h a b z1 z2 z3
theorem Sm.uo (h : Sm o M M') {c : Nat} (hc : c = 40 ∨ c = 41) (u : Int32) : Sm o M (am_u2 M' c o u) := fun a b z1 z2 z3 => by
  rw [fr1 (by omega)]; exact h a b z1 z2 z3
theorem Sm.ui (h : Sm o M M') {c i : Nat} (hc : 39 ≤ c) (hc2 : c ≤ 43) (hi : o < i) (u : Int32) : Sm o M (am_u2 M' c i u) := fun a b z1 z2 z3 => by
  rw [fr1 (by omega)]; exact h a b z1 z2 z3
theorem MF.sm (h : MF M M') : Sm o M M' := fun a j z1 _ _ => h a j (fun e => by omega)
theorem Tk.rf (hc : C (tc_P (!x) + 33) 2 = nI la) (hb : M 0 50 = nI lb) (hm : M 0 60 = nI m) : Tk x o la lb m C M C M [] [] [] :=
  ⟨fun _ _ _ _ _ => rfl, fun _ _ _ _ _ _ _ => rfl, hc, fun i hi => absurd hi (Nat.not_lt_zero _), hb, fun i hi => absurd hi (Nat.not_lt_zero _), hm, fun i hi => absurd hi (Nat.not_lt_zero _)⟩
theorem Tk.cl (h : Tk x o la lb m C M C' M' A B Q) (hC : TF C' C2) : Tk x o la lb m C M C2 M' A B Q := by
  have hy := tc_P4 (!x)
  obtain ⟨h1, h2, h3, h4, h5, h6, h7, h8⟩ := h
  refine ⟨fun a b z1 z2 z3 => ?_, h2, ?_, fun i hi => ?_, h5, h6, h7, h8⟩
  · rw [hC a b (fun z => by omega)]; exact h1 a b z1 z2 z3
  · rw [hC _ _ (fun z => by omega)]; exact h3
  · rw [hC _ _ (fun z => by omega)]; exact h4 i hi
theorem Tk.sm (h : Tk x o la lb m C M C' M' A B Q) (hM : Sm o M' M2) : Tk x o la lb m C M C' M2 A B Q := by
  obtain ⟨h1, h2, h3, h4, h5, h6, h7, h8⟩ := h
  refine ⟨h1, fun a j z1 z2 z3 z4 z5 => ?_, h3, h4, ?_, fun i hi => ?_, ?_, fun i hi => ?_⟩
  · rw [hM a j (by omega) z3 z4]; exact h2 a j z1 z2 z3 z4 z5
  · rw [hM _ _ (by omega) (by omega) (by omega)]; exact h5
  · rw [hM _ _ (by omega) (by omega) (by omega), hM _ _ (by omega) (by omega) (by omega)]; exact h6 i hi
  · rw [hM _ _ (by omega) (by omega) (by omega)]; exact h7
  · rw [hM _ _ (by omega) (by omega) (by omega)]; exact h8 i hi
theorem Tk.tr {o2 : Nat} (ho : o ≤ o2) (h : Tk x o la lb m C M C' M' A B Q) (h2 : Tk x o2 (la + A.length) (lb + B.length) (m + Q.length) C' M' C2 M2 A2 B2 Q2) (hb : lb + B.length ≤ 1600) : Tk x o la lb m C M C2 M2 (A ++ A2) (B ++ B2) (Q ++ Q2) := by
  have hy := tc_P4 (!x)
  obtain ⟨a1, a2, a3, a4, a5, a6, a7, a8⟩ := h
  obtain ⟨b1, b2, b3, b4, b5, b6, b7, b8⟩ := h2
  refine ⟨fun a b z1 z2 z3 => ?_, fun a j z1 z2 z3 z4 z5 => ?_, ?_, fun i hi => ?_, ?_, fun i hi => ?_, ?_, fun i hi => ?_⟩
  · rw [b1 a b z1 z2 (by omega)]; exact a1 a b z1 z2 z3
  · rw [b2 a j z1 (by omega) (by omega) (by omega) (by omega)]; exact a2 a j z1 z2 z3 z4 z5
  · rw [b3, List.length_append, Nat.add_assoc]
  · by_cases z : i < A.length
    · rw [gd_l z, b1 _ _ (by omega) (by omega) (by omega)]; exact a4 i z
    · rw [gd_r (by omega)]
      have := b4 (i - A.length) (by rw [List.length_append] at hi; omega)
      rw [show la + A.length + (i - A.length) = la + i by omega] at this
      exact this
  · rw [b5, List.length_append, Nat.add_assoc]
  · by_cases z : i < B.length
    · rw [gd_l z, b2 _ _ (by omega) (by omega) (by omega) (by omega) (by omega), b2 _ _ (by omega) (by omega) (by omega) (by omega) (by omega)]; exact a6 i z
    · rw [gd_r (by omega)]
      have := b6 (i - B.length) (by rw [List.length_append] at hi; omega)
      rw [show lb + B.length + (i - B.length) = lb + i by omega] at this
      exact this
  · rw [b7, List.length_append, Nat.add_assoc]
  · by_cases z : i < Q.length
    · rw [gd_l z, b2 _ _ (by omega) (by omega) (by omega) (by omega) (by omega)]; exact a8 i z
    · rw [gd_r (by omega)]
      have := b8 (i - Q.length) (by rw [List.length_append] at hi; omega)
      rw [show m + Q.length + (i - Q.length) = m + i by omega] at this
      exact this
/-! the class writes a code -/
theorem c_em0 {u : Nat} (hu : C' (tc_P (!x) + 33) 2 = nI u) (h : u < 1600) (v : Int32) (d : Nat) : am_G (am_ev (d + 1)) 41 [.ref (tc_P (!x) + 33), .int v] (C', Jc, (tc_R x), tc_S, 289, 11479) = some (none, (am_u2 (am_u2 C' (tc_P (!x) + 34) u v) (tc_P (!x) + 33) 2 (nI (u + 1)), Jc, (tc_R x), tc_S, 289, 11479)) := by
  have ck : Int32.toNatClampNeg (nI u) = u := nI_clamp (by omega)
  rw [b41_0, hu, if_neg (geL (c := 1600) 1600 rfl h (by omega)), if_pos (nI_in h (by omega))]
  (try simp only [ck])
  rw [nI_1]
theorem Tk.em (h : Tk x o la lb m C M C' M' A B Q) (c : Nat × Int) : Tk x o la lb m C M (am_u2 (am_u2 C' (tc_P (!x) + 34) (la + A.length) (l_cc c)) (tc_P (!x) + 33) 2 (nI (la + A.length + 1))) M' (A ++ [c]) B Q := by
  have hy := tc_P4 (!x)
  obtain ⟨h1, h2, h3, h4, h5, h6, h7, h8⟩ := h
  refine ⟨fun a b z1 z2 z3 => ?_, h2, ?_, fun i hi => ?_, h5, h6, h7, h8⟩
  · rw [fr1 (by omega), fr1 (by omega)]; exact h1 a b z1 z2 z3
  · rw [u2_s, List.length_append]; rfl
  · rw [u2_c (by omega)]
    by_cases z : i < A.length
    · rw [gd_l z, u2_p (by omega)]; exact h4 i z
    · have e : i = A.length := by rw [List.length_append] at hi; simp only [List.length_singleton] at hi; omega
      subst e
      rw [u2_s, gd_1]
/-! the model writes a code, holds one back, and joins those held back -/
theorem m_ad (hb : M' 0 51 = nI (xb (!x))) (h : Tk x o la lb m C M C' M' A B Q) (hl : lb + B.length < 1600) (c : Nat × Int) {u w : Int32} (hu : u = nI c.1) (hw : w = Int32.ofInt c.2) (d : Nat) : ∃ M2, am_G (am_ev (d + 1)) 173 [.ref 0, .int u, .int w] (M', J, tm_R, tm_S, 77, 21637) = some (none, (M2, J, tm_R, tm_S, 77, 21637)) ∧ Tk x o la lb m C M C' M2 A (B ++ [c]) Q ∧ ∀ a j, ¬ (a = 0 ∧ j = 50) → a ≠ 37 → a ≠ 38 → M2 a j = M' a j := by
  have hx := xb1 (!x)
  have e1 : (1600 : Int32) * M' 0 51 + M' 0 50 = nI (1600 * xb (!x) + (lb + B.length)) := by
    rw [hb, h.2.2.2.2.1, show (1600 : Int32) = nI 1600 from rfl, nI_mul, nI_add]
  have ck : Int32.toNatClampNeg (nI (1600 * xb (!x) + (lb + B.length))) = 1600 * xb (!x) + (lb + B.length) := nI_clamp (by omega)
  have hi : am_in (nI (1600 * xb (!x) + (lb + B.length))) 3200 := nI_in (by omega) (by omega)
  refine ⟨am_u2 (am_u2 (am_u2 M' 37 (1600 * xb (!x) + (lb + B.length)) u) 38 (1600 * xb (!x) + (lb + B.length)) w) 0 50 (nI (lb + B.length + 1)), ?_, ?_, fun a j z1 z2 z3 => ?_⟩
  · rw [b173_0, e1, if_pos hi, if_pos hi]
    (try simp only [ck])
    rw [h.2.2.2.2.1, nI_1]
  · obtain ⟨h1, h2, h3, h4, h5, h6, h7, h8⟩ := h
    refine ⟨h1, fun a j z1 z2 z3 z4 z5 => ?_, h3, h4, ?_, fun i hi => ?_, ?_, fun i hi => ?_⟩
    · rw [fr1 (by omega), fr1 (by omega), fr1 (by omega)]; exact h2 a j z1 z2 z3 z4 z5
    · rw [u2_s, List.length_append]; rfl
    · by_cases z : i < B.length
      · rw [gd_l z, u2_c (by omega), u2_c (by omega), u2_p (by omega), u2_c (by omega), u2_p (by omega), u2_c (by omega)]; exact h6 i z
      · have e : i = B.length := by rw [List.length_append] at hi; simp only [List.length_singleton] at hi; omega
        subst e
        rw [gd_1, u2_c (by omega), u2_c (by omega), u2_s, u2_c (by omega), u2_s]; exact ⟨hu, hw⟩
    · rw [u2_p (by omega), u2_c (by omega), u2_c (by omega)]; exact h7
    · rw [u2_c (by omega), u2_c (by omega), u2_c (by omega)]; exact h8 i hi
  · rw [fr1 (by omega), u2_c z3, u2_c z2]
theorem m_hb (h : Tk x o la lb m C M C' M' A B Q) (hl : m + Q.length < 500) {u : Int32} {c : Nat} (hu : u = nI c) (d : Nat) : ∃ M2, am_G (am_ev (d + 1)) 176 [.ref 0, .int u] (M', J, tm_R, tm_S, 77, 21637) = some (none, (M2, J, tm_R, tm_S, 77, 21637)) ∧ Tk x o la lb m C M C' M2 A B (Q ++ [c]) ∧ ∀ a j, ¬ (a = 0 ∧ j = 60) → a ≠ 44 → M2 a j = M' a j := by
  have ck : Int32.toNatClampNeg (nI (m + Q.length)) = m + Q.length := nI_clamp (by omega)
  refine ⟨am_u2 (am_u2 M' 44 (m + Q.length) u) 0 60 (nI (m + Q.length + 1)), ?_, ?_, fun a j z1 z2 => ?_⟩
  · rw [b176_0, h.2.2.2.2.2.2.1, if_pos (nI_in hl (by omega))]
    (try simp only [ck])
    rw [nI_1]
  · obtain ⟨h1, h2, h3, h4, h5, h6, h7, h8⟩ := h
    refine ⟨h1, fun a j z1 z2 z3 z4 z5 => ?_, h3, h4, ?_, fun i hi => ?_, ?_, fun i hi => ?_⟩
    · rw [fr1 (by omega), fr1 (by omega)]; exact h2 a j z1 z2 z3 z4 z5
    · rw [u2_p (by omega), u2_c (by omega)]; exact h5
    · rw [u2_c (by omega), u2_c (by omega), u2_c (by omega), u2_c (by omega)]; exact h6 i hi
    · rw [u2_s, List.length_append]; rfl
    · rw [u2_c (by omega)]
      by_cases z : i < Q.length
      · rw [gd_l z, u2_p (by omega)]; exact h8 i z
      · have e : i = Q.length := by rw [List.length_append] at hi; simp only [List.length_singleton] at hi; omega
        subst e
        rw [u2_s, gd_1]; exact hu
  · rw [fr1 (by omega), u2_c z2]
end TKK
