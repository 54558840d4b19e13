/-! the model's walk -/
section RTF
variable {x : Bool} {C M : tI} {J Jc : tJ}
theorem Rl.wkM (h : Rl x C M J) {A : Nat} (lA : A < 64) (hA : ∀ i, A.testBit i = true → i < Int32.toNatClampNeg (M 11 (xb x))) (ab : abv (gM M x) M A 0) (x1 : Int32) (d : Nat) : ∀ m S b hs cnt (q : List Nat) (v7 : Value), (rst A S).length = m → sb S A → (b = 6 ∨ b < Int32.toNatClampNeg (M 11 (xb x))) → bsr (gM M x) A S b = some q → cnt + m ≤ 6 → ∃ r : Int32, am_ev (d + 4) 265 39 [.ref 0, .int x1, .int (nI A), .int (nI S), .int (enc b), .int (nI hs), .int (nI cnt), v7] [] (M, J, tm_R, tm_S, 77, 21637) = some (some (.int r), (M, J, tm_R, tm_S, 77, 21637)) ∧ (x1 = -1 → r = nI (hs + cst' (gM M x) b q)) ∧ (∀ i, i < q.length → x1 = nI (cnt + i) → r = nI (q.getD i 0)) ∧ (x1 ≠ -1 → (∀ i, i < q.length → x1 ≠ nI (cnt + i)) → r = -1) := by
  have b11 := h.n11.2.cl (by omega)
  intro m
  induction m with
  | zero =>
    intro S b hs cnt q v7 hm sS hb hq hc
    have e0 : rst A S = [] := List.eq_nil_of_length_eq_zero hm
    have eS : S = A := Classical.byContradiction (fun ne => rst_ne sS lA ne e0)
    rw [bsr_0 _ _ e0] at hq
    cases hq
    have st := b265_39 (d + 3) M J x1 (nI A) (nI S) (enc b) (nI hs) (nI cnt) v7
    rw [if_pos (by rw [eS])] at st
    by_cases z : x1 = -1
    · rw [if_pos z] at st
      exact ⟨_, st, fun _ => rfl, (fun i hi => by cases hi), fun w => absurd z w⟩
    · rw [if_neg z] at st
      exact ⟨_, st, fun w => absurd w z, (fun i hi => by cases hi), fun _ _ => rfl⟩
  | succ m ih =>
    intro S b hs cnt q v7 hm sS hb hq hc
    have lS : S < 64 := by have := sb_le sS; omega
    have ne : S ≠ A := fun w => by rw [w, rst_A] at hm; cases hm
    have tab : scT (gM M x) M A S := by
      intro a ha hAa hSa
      have sT : sb (S ||| 2 ^ a) A := by
        intro z hz
        rw [Nat.testBit_or, pw_bit, Bool.or_eq_true, decide_eq_true_eq] at hz
        rcases hz with hz | hz
        · exact sS z hz
        · rw [← hz]; exact hAa
      have bt : (S ||| 2 ^ a).testBit a = true := by rw [Nat.testBit_or, pw_bit, decide_eq_true rfl, Bool.or_true]
      have nz := bit_nz bt
      obtain ⟨t, t1, t2⟩ := ab _ (by omega) sT a ha bt
      exact ⟨t, t1, t2, bsr_b (N := Int32.toNatClampNeg (M 11 (xb x))) (fun a c ha hc => (h.gB ha hc).2.2) hA (Or.inr (hA a hAa)) t1⟩
    obtain ⟨a, t, a6, aA, aS, e1, e2, e3⟩ := h.nbM sS lA hA hb ne tab d
    rw [hq] at e1
    cases e1
    have aN := hA a aA
    obtain ⟨g1, g2, g3⟩ := h.gB hb aN
    have ea : enc a = nI a := if_neg (by omega)
    have st := b265_39 (d + 3) M J x1 (nI A) (nI S) (enc b) (nI hs) (nI cnt) v7
    rw [if_neg (fun w => ne (nI_inj (by omega) (by omega) w)), e3, am_call_s, am_toL, b265_52] at st
    by_cases z : nI cnt = x1
    · rw [if_pos z] at st
      refine ⟨nI a, st, fun w => ?_, fun i hi w => ?_, fun _ w => ?_⟩
      · rw [← z] at w; exact absurd w (nI_ne (by omega))
      · have l := (bsr_q hq).1
        rw [← z] at w
        have := nI_inj (by omega) (by omega) w
        rw [show i = 0 by omega]; rfl
      · exact absurd z.symm (w 0 (by show 0 < t.length + 1; omega))
    · rw [if_neg z, h.hbM g1 aN, g2, am_call_s, am_toL] at st
      have s2 := st.trans (b265_73 (d + 3) M J x1 (nI A) (nI S) (some (.inr (enc b))) (.int (nI hs)) (nI cnt) (nI a) (nI hs) (nI (gM M x b a)))
      rw [nI_pw (by omega), nI_or, nI_add, nI_1, ← ea] at s2
      have sT : sb (S ||| 2 ^ a) A := by
        intro z hz
        rw [Nat.testBit_or, pw_bit, Bool.or_eq_true, decide_eq_true_eq] at hz
        rcases hz with hz | hz
        · exact sS z hz
        · rw [← hz]; exact aA
      have rl := rst_l aA aS a6
      obtain ⟨r, y1, y2, y3, y4⟩ := ih (S ||| 2 ^ a) a (hs + gM M x b a) (cnt + 1) t (.int (enc a)) (by omega) sT (Or.inr aN) e2 (by omega)
      refine ⟨r, s2.trans y1, fun w => ?_, fun i hi w => ?_, fun w1 w2 => ?_⟩
      · rw [y2 w, cst_c, Nat.add_assoc]
      · cases i with
        | zero => exact absurd w.symm z
        | succ i => exact y3 i (by have : i + 1 < t.length + 1 := hi; omega) (by rw [w]; congr 1; omega)
      · exact y4 w1 (fun i hi w => w2 (i + 1) (by show i + 1 < t.length + 1; omega) (by rw [w]; congr 1; omega))
end RTF
