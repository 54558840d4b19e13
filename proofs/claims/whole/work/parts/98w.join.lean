/-! LAWS: what is held back is joined; the class when the text is at fault -/
def rk (c : Nat) : Nat := match c with
  | 21 => 1
  | 20 => 2
  | 22 => 3
  | 17 => 4
  | 18 => 4
  | 19 => 4
  | 10 => 5
  | 11 => 5
  | _ => 6
theorem m_rank {c : Nat} (h1 : 10 ≤ c) (h2 : c ≤ 22) (d : Nat) (I : tI) (J : tJ) : am_G (am_ev (d + 1)) 174 [.int (nI c)] (I, J, tm_R, tm_S, 77, 21637) = some (some (.int (nI (rk c))), (I, J, tm_R, tm_S, 77, 21637)) := by
  rcases (by omega : c = 10 ∨ c = 11 ∨ c = 12 ∨ c = 13 ∨ c = 14 ∨ c = 15 ∨ c = 16 ∨ c = 17 ∨ c = 18 ∨ c = 19 ∨ c = 20 ∨ c = 21 ∨ c = 22) with rfl | rfl | rfl | rfl | rfl | rfl | rfl | rfl | rfl | rfl | rfl | rfl | rfl
  · rw [b174_0, if_neg (by decide : ¬ nI 10 = (21 : Int32)), if_neg (by decide : ¬ nI 10 = (20 : Int32)), if_neg (by decide : ¬ nI 10 = (22 : Int32)), if_neg (by decide : ¬ nI 10 = (17 : Int32)), if_neg (by decide : ¬ nI 10 = (18 : Int32)), if_neg (by decide : ¬ nI 10 = (19 : Int32)), if_pos (by decide : nI 10 = (10 : Int32))]; rfl
  · rw [b174_0, if_neg (by decide : ¬ nI 11 = (21 : Int32)), if_neg (by decide : ¬ nI 11 = (20 : Int32)), if_neg (by decide : ¬ nI 11 = (22 : Int32)), if_neg (by decide : ¬ nI 11 = (17 : Int32)), if_neg (by decide : ¬ nI 11 = (18 : Int32)), if_neg (by decide : ¬ nI 11 = (19 : Int32)), if_neg (by decide : ¬ nI 11 = (10 : Int32)), if_pos (by decide : nI 11 = (11 : Int32))]; rfl
  · rw [b174_0, if_neg (by decide : ¬ nI 12 = (21 : Int32)), if_neg (by decide : ¬ nI 12 = (20 : Int32)), if_neg (by decide : ¬ nI 12 = (22 : Int32)), if_neg (by decide : ¬ nI 12 = (17 : Int32)), if_neg (by decide : ¬ nI 12 = (18 : Int32)), if_neg (by decide : ¬ nI 12 = (19 : Int32)), if_neg (by decide : ¬ nI 12 = (10 : Int32)), if_neg (by decide : ¬ nI 12 = (11 : Int32))]; rfl
  · rw [b174_0, if_neg (by decide : ¬ nI 13 = (21 : Int32)), if_neg (by decide : ¬ nI 13 = (20 : Int32)), if_neg (by decide : ¬ nI 13 = (22 : Int32)), if_neg (by decide : ¬ nI 13 = (17 : Int32)), if_neg (by decide : ¬ nI 13 = (18 : Int32)), if_neg (by decide : ¬ nI 13 = (19 : Int32)), if_neg (by decide : ¬ nI 13 = (10 : Int32)), if_neg (by decide : ¬ nI 13 = (11 : Int32))]; rfl
  · rw [b174_0, if_neg (by decide : ¬ nI 14 = (21 : Int32)), if_neg (by decide : ¬ nI 14 = (20 : Int32)), if_neg (by decide : ¬ nI 14 = (22 : Int32)), if_neg (by decide : ¬ nI 14 = (17 : Int32)), if_neg (by decide : ¬ nI 14 = (18 : Int32)), if_neg (by decide : ¬ nI 14 = (19 : Int32)), if_neg (by decide : ¬ nI 14 = (10 : Int32)), if_neg (by decide : ¬ nI 14 = (11 : Int32))]; rfl
  · rw [b174_0, if_neg (by decide : ¬ nI 15 = (21 : Int32)), if_neg (by decide : ¬ nI 15 = (20 : Int32)), if_neg (by decide : ¬ nI 15 = (22 : Int32)), if_neg (by decide : ¬ nI 15 = (17 : Int32)), if_neg (by decide : ¬ nI 15 = (18 : Int32)), if_neg (by decide : ¬ nI 15 = (19 : Int32)), if_neg (by decide : ¬ nI 15 = (10 : Int32)), if_neg (by decide : ¬ nI 15 = (11 : Int32))]; rfl
  · rw [b174_0, if_neg (by decide : ¬ nI 16 = (21 : Int32)), if_neg (by decide : ¬ nI 16 = (20 : Int32)), if_neg (by decide : ¬ nI 16 = (22 : Int32)), if_neg (by decide : ¬ nI 16 = (17 : Int32)), if_neg (by decide : ¬ nI 16 = (18 : Int32)), if_neg (by decide : ¬ nI 16 = (19 : Int32)), if_neg (by decide : ¬ nI 16 = (10 : Int32)), if_neg (by decide : ¬ nI 16 = (11 : Int32))]; rfl
  · rw [b174_0, if_neg (by decide : ¬ nI 17 = (21 : Int32)), if_neg (by decide : ¬ nI 17 = (20 : Int32)), if_neg (by decide : ¬ nI 17 = (22 : Int32)), if_pos (by decide : nI 17 = (17 : Int32))]; rfl
  · rw [b174_0, if_neg (by decide : ¬ nI 18 = (21 : Int32)), if_neg (by decide : ¬ nI 18 = (20 : Int32)), if_neg (by decide : ¬ nI 18 = (22 : Int32)), if_neg (by decide : ¬ nI 18 = (17 : Int32)), if_pos (by decide : nI 18 = (18 : Int32))]; rfl
  · rw [b174_0, if_neg (by decide : ¬ nI 19 = (21 : Int32)), if_neg (by decide : ¬ nI 19 = (20 : Int32)), if_neg (by decide : ¬ nI 19 = (22 : Int32)), if_neg (by decide : ¬ nI 19 = (17 : Int32)), if_neg (by decide : ¬ nI 19 = (18 : Int32)), if_pos (by decide : nI 19 = (19 : Int32))]; rfl
  · rw [b174_0, if_neg (by decide : ¬ nI 20 = (21 : Int32)), if_pos (by decide : nI 20 = (20 : Int32))]; rfl
  · rw [b174_0, if_pos (by decide : nI 21 = (21 : Int32))]; rfl
  · rw [b174_0, if_neg (by decide : ¬ nI 22 = (21 : Int32)), if_neg (by decide : ¬ nI 22 = (20 : Int32)), if_pos (by decide : nI 22 = (22 : Int32))]; rfl
theorem rk_b (c : Nat) : 1 ≤ rk c ∧ rk c ≤ 6 := by unfold rk; split <;> omega
section JNS
variable {x : Bool} {o la lb m r : Nat} {C M C' M' C2 M2 : tI} {J J' Jc : tJ} {A B A2 B2 : List (Nat × Int)} {Q Q2 : List Nat}
theorem Tk.pop {c : Nat} (h : Tk x o la lb m C M C' M' A B (Q ++ [c])) : Tk x o la lb m C M C' (am_u2 M' 0 60 (nI (m + Q.length))) A B Q ∧ M' 44 (m + Q.length) = nI c ∧ M' 0 60 = nI (m + Q.length + 1) := by
  obtain ⟨h1, h2, h3, h4, h5, h6, h7, h8⟩ := h
  have e : (Q ++ [c]).length = Q.length + 1 := by rw [List.length_append]; rfl
  refine ⟨⟨h1, fun a j z1 z2 z3 z4 z5 => ?_, h3, h4, ?_, fun i hi => ?_, u2_s, fun i hi => ?_⟩, ?_, ?_⟩
  · rw [fr1 (by omega)]; exact h2 a j z1 z2 z3 z4 z5
  · rw [u2_p (by omega)]; exact h5
  · rw [u2_c (by omega), u2_c (by omega)]; exact h6 i hi
  · rw [u2_c (by omega), h8 i (by omega), gd_l hi]
  · rw [h8 Q.length (by omega), gd_1]
  · rw [h7, e]; rfl
theorem m_jn (ho : o ≤ 9) (hr : r ≤ 6) {bs : Nat} (d : Nat) : ∀ (R : List Nat) (M' : tI) (B : List (Nat × Int)), Tk x o la lb m C M C' M' A B (Q ++ R.reverse) → M' 0 51 = nI (xb (!x)) → M' 0 57 = nI (o + 1) → M' 43 o = nI bs → bs ≤ m + Q.length → (∀ c ∈ R, 10 ≤ c ∧ c ≤ 22 ∧ r ≤ rk c) → m + Q.length + R.length ≤ 500 → lb + B.length + R.length ≤ 1600 → (m + Q.length = bs ∨ ∃ c, M' 44 (m + Q.length - 1) = nI c ∧ 10 ≤ c ∧ c ≤ 22 ∧ rk c < r ∧ bs < m + Q.length) → ∃ M2, am_G (am_ev (d + 2)) 175 [.ref 0, .int (nI r)] (M', J, tm_R, tm_S, 77, 21637) = some (none, (M2, J, tm_R, tm_S, 77, 21637)) ∧ Tk x o la lb m C M C' M2 A (B ++ R.map (fun c => (c, (0 : Int)))) Q ∧ ∀ a j, ¬ (a = 0 ∧ (j = 50 ∨ j = 60)) → a ≠ 37 → a ≠ 38 → M2 a j = M' a j := by
  intro R
  induction R with
  | nil =>
    intro M' B h h51 h57 h43 hbs _ h5 _ stp
    rw [List.reverse_nil, List.append_nil] at h
    have e57 : M' 0 57 - 1 = nI o := by rw [h57]; exact nI_sub (b := 1) (by omega) (by omega)
    have e60 := h.2.2.2.2.2.2.1
    have ck : Int32.toNatClampNeg (nI o) = o := nI_clamp (by omega)
    have hi : am_in (nI o) 20 := nI_in (by omega) (by omega)
    refine ⟨M', ?_, by rw [List.map_nil, List.append_nil]; exact h, fun _ _ _ _ _ => rfl⟩
    rw [b175_0, e57, if_pos hi]
    (try simp only [ck])
    rw [h43, e60]
    rcases stp with rfl | ⟨c, c1, c2, c3, c4, c5⟩
    · rw [if_pos (Int32.le_refl _)]
    · have hl : 0 < m + Q.length := by omega
      have f60 : nI (m + Q.length) - 1 = nI (m + Q.length - 1) := nI_sub (b := 1) (by omega) (by omega)
      have ck2 : Int32.toNatClampNeg (nI (m + Q.length - 1)) = m + Q.length - 1 := nI_clamp (by omega)
      have := rk_b c
      rw [if_neg (nI_ge c5 (by omega)), f60, if_pos (nI_in (by rw [List.length_nil] at h5; omega) (by omega))]
      (try simp only [ck2])
      rw [c1, m_rank c2 c3, am_call_s, am_toL, b175_32, if_pos (nI_lt c4 (by omega))]
  | cons c R ih =>
    intro M' B h h51 h57 h43 hbs hR h5 hB stp
    rw [List.reverse_cons, ← List.append_assoc] at h
    obtain ⟨p1, p2, p3⟩ := h.pop
    have hlen : (Q ++ R.reverse).length = Q.length + R.length := by rw [List.length_append, List.length_reverse]
    rw [hlen] at p1 p2 p3
    rw [List.length_cons] at h5 hB
    have e57 : M' 0 57 - 1 = nI o := by rw [h57]; exact nI_sub (b := 1) (by omega) (by omega)
    have ck : Int32.toNatClampNeg (nI o) = o := nI_clamp (by omega)
    have hi : am_in (nI o) 20 := nI_in (by omega) (by omega)
    have f60 : nI (m + (Q.length + R.length) + 1) - 1 = nI (m + (Q.length + R.length)) := nI_sub (b := 1) (by omega) (by omega)
    have ck2 : Int32.toNatClampNeg (nI (m + (Q.length + R.length))) = m + (Q.length + R.length) := nI_clamp (by omega)
    have hi2 : am_in (nI (m + (Q.length + R.length))) 500 := nI_in (by omega) (by omega)
    obtain ⟨c1, c2, c3⟩ := hR c (List.mem_cons_self ..)
    have := rk_b c
    obtain ⟨M2, q1, q2, q3⟩ := m_ad (J := J) (by rw [u2_p (by omega)]; exact h51) p1 (by omega) (c, 0) (u := nI c) (w := 0) rfl rfl d
    obtain ⟨M3, r1, r2, r3⟩ := ih M2 _ q2 (by rw [q3 _ _ (by omega) (by omega) (by omega), u2_p (by omega)]; exact h51) (by rw [q3 _ _ (by omega) (by omega) (by omega), u2_p (by omega)]; exact h57) (by rw [q3 _ _ (by omega) (by omega) (by omega), u2_c (by omega)]; exact h43) hbs (fun c' hc' => hR c' (List.mem_cons_of_mem _ hc')) (by omega) (by rw [List.length_append]; simp only [List.length_singleton]; omega) (by rw [q3 _ _ (by omega) (by omega) (by omega), u2_c (by omega)]; exact stp)
    refine ⟨M3, ?_, ?_, fun a j z1 z2 z3 => ?_⟩
    · rw [b175_0, e57, if_pos hi]
      (try simp only [ck])
      rw [h43, p3, if_neg (nI_ge (by omega) (by omega)), f60, if_pos hi2]
      (try simp only [ck2])
      rw [p2, m_rank c1 c2, am_call_s, am_toL, b175_32, if_neg (nI_nlt c3 (by omega)), p3, f60, if_pos hi2]
      (try simp only [ck2])
      rw [p2, q1, am_call_s, am_toN, b175_60]
      exact ((am_G_eq (Nat.le_of_ble_eq_true rfl)).symm.trans r1)
    · rw [List.append_assoc] at r2; exact r2
    · rw [r3 a j z1 z2 z3, q3 a j (by omega) z2 z3, fr1 (by omega)]
end JNS
