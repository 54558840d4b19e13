/-! the model's table of a set -/
theorem perms_ne : ∀ k (l : List Nat), l.length = k → ∃ t r, perms k l = t :: r := by
  intro k
  induction k with
  | zero => intro l _; exact ⟨[], [], rfl⟩
  | succ k ih =>
    intro l hl
    cases l with
    | nil => cases hl
    | cons a l =>
      obtain ⟨t, r, e⟩ := ih l (by rw [List.length_cons] at hl; omega)
      rw [perms_s, picks_c, List.flatMap_cons]
      show ∃ t' r', (perms k l).map (fun t => a :: t) ++ _ = t' :: r'
      rw [e]
      exact ⟨_, _, rfl⟩
theorem bsr_some (g : Nat → Nat → Nat) (A S b : Nat) : ∃ q, bsr g A S b = some q := by
  unfold bsr
  obtain ⟨t, r, e⟩ := perms_ne _ (rst A S) rfl
  rw [← fm_bst, e]
  exact fm_some _ t r
theorem rst_ne {A S : Nat} (sS : sb S A) (lA : A < 64) (ne : S ≠ A) : rst A S ≠ [] := by
  intro e
  have nz : A ^^^ S ≠ 0 := fun w => ne (x_0 w).symm
  obtain ⟨i, hi⟩ := nz_bit nz
  rw [x_bit sS, Bool.and_eq_true, Bool.not_eq_true'] at hi
  have : i ∈ rst A S := rst_mem.mpr ⟨lt_bits (n := 6) lA i hi.1, hi.1, hi.2⟩
  rw [e] at this
  cases this
theorem rst_A (A : Nat) : rst A A = [] := by
  unfold rst fl
  refine List.filter_eq_nil_iff.mpr (fun z _ => ?_)
  cases A.testBit z <;> decide
section RTB
variable {x : Bool} {C M : tI} {J Jc : tJ}
def enT (g : Nat → Nat → Nat) (D : tI) (A T a : Nat) : Prop := ∃ t, bsr g A T a = some t ∧ D 70 (6 * T + a) = nI (cst' g a t)
def abv (g : Nat → Nat → Nat) (D : tI) (A S : Nat) : Prop := ∀ T, S < T → sb T A → ∀ a, a < 6 → T.testBit a = true → enT g D A T a
theorem Rl.sc18 (h : Rl x C M J) {A S : Nat} (sS : sb S A) (lA : A < 64) (hA : ∀ i, A.testBit i = true → i < Int32.toNatClampNeg (M 11 (xb x))) (d : Nat) : ∀ m i (D : tI) (v4 v5 v6 : Value), i + m = 6 → (∀ a b, a ≠ 70 → D a b = M a b) → abv (gM M x) D A S → (∀ a, a < i → S.testBit a = true → enT (gM M x) D A S a) → ∃ (D' : tI) (w4 w5 w6 : Value), am_ev (d + 3) 263 18 [.ref 0, .int (nI A), .int (nI S), .int (nI i), v4, v5, v6] [] (D, J, tm_R, tm_S, 77, 21637) = am_ev (d + 3) 263 18 [.ref 0, .int (nI A), .int (nI S), .int (nI 6), w4, w5, w6] [] (D', J, tm_R, tm_S, 77, 21637) ∧ (∀ a b, a ≠ 70 → D' a b = M a b) ∧ abv (gM M x) D' A S ∧ ∀ a, a < 6 → S.testBit a = true → enT (gM M x) D' A S a := by
  have lS : S < 64 := by have := sb_le sS; omega
  have b11 := h.n11.2.cl (by omega)
  intro m
  induction m with
  | zero => intro i D v4 v5 v6 hi fr ab en; obtain rfl : i = 6 := by omega
            exact ⟨D, v4, v5, v6, rfl, fr, ab, en⟩
  | succ m ih =>
    intro i D v4 v5 v6 hi fr ab en
    have hD : Rl x C D J := h.scr (fun _ _ _ => rfl) (fun a b q => fr a b (by omega)) (fun _ _ _ => rfl)
    have gD : gM D x = gM M x := gM_c (fun b => fr 19 b (by omega))
    have e11 : D 11 (xb x) = M 11 (xb x) := fr _ _ (by omega)
    have st := b263_18 (d + 2) D J (nI A) (nI S) (nI i) v4 v5 v6
    rw [if_neg (show ¬ (6 : Int32) ≤ nI i from nI_ge (b := 6) (by omega) (by omega))] at st
    by_cases q : S.testBit i = true
    rotate_left
    · rw [if_pos ((bit_r (by omega) (by omega)).mpr (Bool.eq_false_iff.mpr q)), nI_1] at st
      obtain ⟨D', w4, w5, w6, y1, y2⟩ := ih (i + 1) D v4 v5 v6 (by omega) fr ab (fun a ha hs => by
        by_cases z : a = i
        · subst z; exact absurd hs q
        · exact en a (by omega) hs)
      exact ⟨D', w4, w5, w6, st.trans y1, y2⟩
    rw [if_neg (fun w => by rw [bit_r (by omega) (by omega)] at w; rw [w] at q; cases q)] at st
    have iN := hA i (sS i q)
    have ei : enc i = nI i := if_neg (by omega)
    have ix : (6 : Int32) * nI S + nI i = nI (6 * S + i) := nI_ix 6 _ _
    have ci : (nI (6 * S + i)).toNatClampNeg = 6 * S + i := nI_clamp (by omega)
    have fin : ∀ (v : Int32) (u6 : Value) (t : List Nat), bsr (gM M x) A S i = some t → v = nI (cst' (gM M x) i t) → ∃ (D' : tI) (w4 w5 w6 : Value), am_ev (d + 3) 263 50 [.ref 0, .int (nI A), .int (nI S), .int (nI i), .int v, .int (nI 6), u6] [] (D, J, tm_R, tm_S, 77, 21637) = am_ev (d + 3) 263 18 [.ref 0, .int (nI A), .int (nI S), .int (nI 6), w4, w5, w6] [] (D', J, tm_R, tm_S, 77, 21637) ∧ (∀ a b, a ≠ 70 → D' a b = M a b) ∧ abv (gM M x) D' A S ∧ ∀ a, a < 6 → S.testBit a = true → enT (gM M x) D' A S a := by
      intro v u6 t e1 e2
      have s2 := b263_50 (d + 2) D J (nI A) (nI S) (nI i) v (nI 6) u6
      rw [if_pos (show (6 : Int32) ≤ nI 6 from Int32.le_refl _), ix, if_pos (nI_in (by omega) (by omega)), nI_1] at s2
      simp only [ci] at s2
      obtain ⟨D', w4, w5, w6, y1, y2⟩ := ih (i + 1) (am_u2 D 70 (6 * S + i) v) (.int v) (.int (nI 6)) u6 (by omega) (fun a b z => by rw [u2_c z]; exact fr a b z) (fun T hT sT a ha hb => by
        obtain ⟨u, u1, u2⟩ := ab T hT sT a ha hb
        exact ⟨u, u1, by rw [u2_p (by omega)]; exact u2⟩) (fun a ha hs => by
        by_cases z : a = i
        · subst z; exact ⟨t, e1, by rw [u2_s]; exact e2⟩
        · obtain ⟨u, u1, u2⟩ := en a (by omega) hs
          exact ⟨u, u1, by rw [u2_p (by omega)]; exact u2⟩)
      exact ⟨D', w4, w5, w6, s2.trans y1, y2⟩
    by_cases eA : S = A
    · subst eA
      rw [if_pos rfl] at st
      have none : ∀ j, j ≤ 6 → am_ev (d + 3) 263 50 [.ref 0, .int (nI S), .int (nI S), .int (nI i), .int 0, .int (nI 0), v6] [] (D, J, tm_R, tm_S, 77, 21637) = am_ev (d + 3) 263 50 [.ref 0, .int (nI S), .int (nI S), .int (nI i), .int 0, .int (nI j), v6] [] (D, J, tm_R, tm_S, 77, 21637) := by
        intro j
        induction j with
        | zero => intro _; rfl
        | succ j ihj =>
          intro hj
          rw [ihj (by omega), b263_50, if_neg (show ¬ (6 : Int32) ≤ nI j from nI_ge (b := 6) (by omega) (by omega)), nI_cmp sS, Nat.xor_self, if_pos ((bit_r (by omega) (by omega)).mpr (Nat.zero_testBit _)), nI_1]
      obtain ⟨D', w4, w5, w6, y1, y2⟩ := fin 0 v6 [] (bsr_0 _ _ (rst_A S)) rfl
      exact ⟨D', w4, w5, w6, st.trans ((none 6 (Nat.le_refl _)).trans y1), y2⟩
    · rw [if_neg (fun w => eA (nI_inj (by omega) (by omega) w))] at st
      have tab : scT (gM D x) D A S := by
        intro a ha hAa hSa
        rw [gD]
        have sT : sb (S ||| 2 ^ a) A := by
          intro z hz
          rw [Nat.testBit_or, pw_bit, Bool.or_eq_true, decide_eq_true_eq] at hz
          rcases hz with hz | hz
          · exact sS z hz
          · rw [← hz]; exact hAa
        have sb2 : sb S (S ||| 2 ^ a) := fun z hz => by rw [Nat.testBit_or, hz]; rfl
        have bt : (S ||| 2 ^ a).testBit a = true := by rw [Nat.testBit_or, pw_bit, decide_eq_true rfl, Bool.or_true]
        have lt : S < S ||| 2 ^ a := Nat.lt_of_le_of_ne (sb_le sb2) (fun w => by rw [← w, hSa] at bt; cases bt)
        obtain ⟨t, t1, t2⟩ := ab _ lt sT a ha bt
        exact ⟨t, t1, t2, bsr_b (N := Int32.toNatClampNeg (M 11 (xb x))) (fun a c ha hc => (h.gB ha hc).2.2) hA (Or.inr (hA a hAa)) t1⟩
      obtain ⟨v', w6, y1, y2⟩ := hD.sc50 (b := i) sS lA (by rw [e11]; exact hA) (Or.inr (by rw [e11]; exact iN)) tab d 6 0 (-1) v6 (by omega) (Or.inl ⟨rfl, rfl⟩)
      rw [gD] at y2
      rw [ei] at y1
      obtain ⟨q', hq'⟩ := bsr_some (gM M x) A S i
      have a6 := acj_6 (gM M x) i (rst_ne sS lA eA)
      rcases y2 with ⟨z1, _⟩ | ⟨u, z1, z2, _⟩
      · rw [a6, hq'] at z1; cases z1
      · obtain ⟨D', w4, w5, w7, f1, f2⟩ := fin v' w6 u (by rw [← a6]; exact z1) z2
        exact ⟨D', w4, w5, w7, st.trans (y1.trans f1), f2⟩
end RTB
