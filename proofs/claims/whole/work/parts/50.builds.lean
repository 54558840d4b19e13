/-! the first half of the model's builds -/
section BLD
variable {x : Bool} {C M : tI} {J Jc : tJ}
def pM (M : tI) (x : Bool) (s k l j : Nat) : Prop := (∃ i, i < k ∧ M 15 (24 * xb x + i) = nI s ∧ Int32.toNatClampNeg (M 17 (24 * xb x + i)) = lQ M j) ∨ (M 15 (24 * xb x + k) = nI s ∧ Int32.toNatClampNeg (M 17 (24 * xb x + k)) = lQ M j ∧ j < l)
theorem pM_s {s k l : Nat} (e15 : M 15 (24 * xb x + k) = nI s) (eq : lQ M l = Int32.toNatClampNeg (M 17 (24 * xb x + k))) (j : Nat) : pM M x s k (l + 1) j ↔ pM M x s k l j ∨ j = l := by
  unfold pM
  by_cases e : j = l
  · subst e; exact ⟨fun _ => Or.inr rfl, fun _ => Or.inr ⟨e15, eq.symm, by omega⟩⟩
  · exact ⟨fun w => Or.inl (w.imp id (fun z => ⟨z.1, z.2.1, by omega⟩)), fun w => (w.resolve_right e).imp id (fun z => ⟨z.1, z.2.1, by omega⟩)⟩
theorem pM_z {s k l : Nat} (eq : lQ M l ≠ Int32.toNatClampNeg (M 17 (24 * xb x + k))) (j : Nat) : pM M x s k (l + 1) j ↔ pM M x s k l j := by
  unfold pM
  by_cases e : j = l
  · subst e; exact ⟨fun w => w.imp id (fun z => absurd z.2.1.symm eq), fun w => w.imp id (fun z => absurd z.2.1.symm eq)⟩
  · exact ⟨fun w => w.imp id (fun z => ⟨z.1, z.2.1, by omega⟩), fun w => w.imp id (fun z => ⟨z.1, z.2.1, by omega⟩)⟩
theorem pM_n {s k n j : Nat} (hj : j < n) : pM M x s k n j ↔ pM M x s (k + 1) 0 j := by
  unfold pM
  constructor
  · rintro (⟨i, hi, e⟩ | e)
    · exact Or.inl ⟨i, by omega, e⟩
    · exact Or.inl ⟨k, by omega, e.1, e.2.1⟩
  · rintro (⟨i, hi, e⟩ | e)
    · by_cases z : i = k
      · subst z; exact Or.inr ⟨e.1, e.2, hj⟩
      · exact Or.inl ⟨i, by omega, e⟩
    · omega
theorem Rl.alM (h : Rl x C M J) (s : Nat) (P Q : Nat → Prop) (hh : ∀ j, j < Int32.toNatClampNeg (M 0 70) → (P j ↔ Q j) ∨ lT C M x s j = 0) : bM M (Int32.toNatClampNeg (M 0 70)) P (lR C M x s) = bM M (Int32.toNatClampNeg (M 0 70)) Q (lR C M x s) ∧ lO C M x s P (Int32.toNatClampNeg (M 0 70)) = lO C M x s Q (Int32.toNatClampNeg (M 0 70)) := by
  refine ⟨bM_c (fun j hj => (hh j hj).imp id (fun ht => ?_)), orS_c _ _ _ _ _ _ (fun j hj ht => ?_)⟩
  · obtain ⟨_, _, e, _⟩ := h.lR60 s hj
    rw [e]; unfold lR; rw [ht]; rfl
  · rcases hh j hj with w | w
    · exact w
    · have : tT (nN C x s) (lQ M) (lF M x) (lL M) j = 0 := w
      omega
theorem Rl.tkM (h : Rl x C M J) {s : Nat} (hs : s < 6) {n : Nat} (hn : n < Int32.toNatClampNeg (M 14 (xb x))) (e15 : M 15 (24 * xb x + n) = nI s) (d : Nat) : ∀ k l, l + k = Int32.toNatClampNeg (M 0 70) → ∀ w, ∃ v4 v5 v6, am_ev (d + 3) 239 56 [.ref 0, .int (nI s), .int (lO C M x s (pM M x s n l) (Int32.toNatClampNeg (M 0 70))), .int (nI (24 * xb x + n)), .int (nI (nN C x s (Int32.toNatClampNeg (M 17 (24 * xb x + n))) - lG C M x s (Int32.toNatClampNeg (M 17 (24 * xb x + n))) l)), .int (nI l), w] [] (bM M (Int32.toNatClampNeg (M 0 70)) (pM M x s n l) (lR C M x s), J, tm_R, tm_S, 77, 21637) = am_ev (d + 3) 239 10 [.ref 0, .int (nI s), .int (lO C M x s (pM M x s (n + 1) 0) (Int32.toNatClampNeg (M 0 70))), .int (nI (24 * xb x + (n + 1))), v4, v5, v6] [] (bM M (Int32.toNatClampNeg (M 0 70)) (pM M x s (n + 1) 0) (lR C M x s), J, tm_R, tm_S, 77, 21637) := by
  have hx := xb1 x
  have n70 := h.nlB.cl (by omega)
  have e70 := h.nlB.eq (by omega)
  have b14 := h.n14.2.cl (by omega)
  obtain ⟨_, d2, d3⟩ := h.P.2.2.2.2.2.1
  have gn := d2 n hn
  have b17 := gn.2.2.1.cl (by omega)
  have e17 := gn.2.2.1.eq (by omega)
  generalize hq : Int32.toNatClampNeg (M 17 (24 * xb x + n)) = q at *
  obtain ⟨_, n9⟩ := h.nB hs (q := q) (by omega)
  have uni : ∀ j, lQ M j = q → ¬ ∃ i, i < n ∧ M 15 (24 * xb x + i) = nI s ∧ Int32.toNatClampNeg (M 17 (24 * xb x + i)) = lQ M j := by
    rintro j ej ⟨i, hi, w1, w2⟩
    have gi := d2 i (by omega)
    refine d3 i n hi hn ⟨w1.trans e15.symm, ?_⟩
    rw [gi.2.2.1.eq (by omega), w2, ej, e17]
  have i48 : am_in (nI (24 * xb x + n)) 48 := nI_in (by omega) (by omega)
  have c48 : (nI (24 * xb x + n)).toNatClampNeg = 24 * xb x + n := nI_clamp (by omega)
  intro k
  induction k with
  | zero =>
    intro l hl w
    obtain rfl : l = Int32.toNatClampNeg (M 0 70) := by omega
    obtain ⟨a1, a2⟩ := h.alM s (pM M x s n (Int32.toNatClampNeg (M 0 70))) (pM M x s (n + 1) 0) (fun j hj => Or.inl (pM_n hj))
    rw [b239_56, bM_f (a := 0) (b := 70) (by omega), if_pos (by rw [← e70]; exact Int32.le_refl _), a1, a2, nI_1]
    exact ⟨_, _, _, rfl⟩
  | succ k ih =>
    intro l hl w
    have hl' : l < Int32.toNatClampNeg (M 0 70) := by omega
    obtain ⟨l60, r60, e53, e51, q8, tl⟩ := h.lR60 s hl'
    have g := h.H.2.2.1 l hl'
    have i40 : am_in (nI l) 40 := nI_in (by omega) (by omega)
    have cl : (nI l).toNatClampNeg = l := nI_clamp (by omega)
    have skip : lT C M x s l = 0 ∨ lQ M l ≠ q → lG C M x s q (l + 1) = lG C M x s q l ∧ bM M (Int32.toNatClampNeg (M 0 70)) (pM M x s n l) (lR C M x s) = bM M (Int32.toNatClampNeg (M 0 70)) (pM M x s n (l + 1)) (lR C M x s) ∧ lO C M x s (pM M x s n l) (Int32.toNatClampNeg (M 0 70)) = lO C M x s (pM M x s n (l + 1)) (Int32.toNatClampNeg (M 0 70)) := by
      intro z
      refine ⟨?_, h.alM s _ _ (fun j hj => ?_)⟩
      · rw [lG_s]
        by_cases e : lQ M l = q
        · rw [cite_p e, z.resolve_right (fun w => w e)]; exact Nat.add_zero _
        · rw [cite_n e]; exact Nat.add_zero _
      · by_cases e : lQ M l = q
        · by_cases ej : j = l
          · subst ej; exact Or.inr (z.resolve_right (fun w => w e))
          · refine Or.inl ⟨fun w => (pM_s e15 (by rw [hq]; exact e) j).mpr (Or.inl w), fun w => ((pM_s e15 (by rw [hq]; exact e) j).mp w).resolve_right ej⟩
        · exact Or.inl (pM_z (by rw [hq]; exact e) j).symm
    have hR := h.lots (n := Int32.toNatClampNeg (M 0 70)) rfl (pM M x s n l) (R := lR C M x s) (fun j hj => (h.lR60 s hj).2.1)
    have gl : ¬ M 0 70 ≤ nI l := by rw [e70]; exact nI_ge hl' (by omega)
    rw [b239_56, bM_f (a := 0) (b := 70) (by omega), if_neg gl]
    by_cases lk : nN C x s q - lG C M x s q l = 0
    · obtain ⟨a1, a2⟩ := h.alM s (pM M x s n l) (pM M x s (n + 1) 0) (fun j hj => by
        by_cases e : lQ M j = q ∧ l ≤ j
        · refine Or.inr (tT_0 _ _ _ _ (l := l) ?_ e.2)
          have e1 := e.1
          rw [e1]
          have : sg (nN C x s) (lQ M) (lF M x) (lL M) q l = lG C M x s q l := rfl
          omega
        · refine Or.inl (Iff.trans ?_ (pM_n hj))
          unfold pM
          rw [hq]
          exact ⟨fun w => w.imp id (fun z => ⟨z.1, z.2.1, hj⟩), fun w => w.imp id (fun z => ⟨z.1, z.2.1, by have := z.2.1; omega⟩)⟩)
      rw [lk, if_pos (by decide : nI 0 ≤ 0), a1, a2, nI_1]
      exact ⟨_, _, _, rfl⟩
    rw [if_neg (nI_nle (by omega) (by omega)), if_pos i40, if_pos i48]
    simp only [cl, c48]
    rw [bM_f (a := 51) (by omega), bM_f (a := 17) (by omega), e51, e17]
    by_cases eq : lQ M l = q
    rotate_left
    · obtain ⟨s1, s2, s3⟩ := skip (Or.inr eq)
      rw [if_neg (fun w => eq (nI_inj (by omega) (by omega) w)), nI_1, s2, s3, ← s1]
      exact ih (l + 1) (by omega) w
    have npl : ¬ pM M x s n l l := by
      unfold pM
      rintro (z | z)
      · exact uni l eq z
      · omega
    have eb := g.2.2.2.2.2.1.eq (by omega)
    have hb := g.2.2.2.2.2.2.1
    have fit := hR.fitMv (v := M 52 l) eb (by rw [bM_f (by omega)]; exact hb) d
    rw [if_pos (by rw [eq]), if_pos i40, bM_f (a := 52) (by omega), fit, am_call_s, am_toL, b239_97, am_bif]
    by_cases ff : lF M x l
    rotate_left
    · have ff' : ¬ fitP (bM M (Int32.toNatClampNeg (M 0 70)) (pM M x s n l) (lR C M x s)) x (Int32.toNatClampNeg (M 52 l)) := fun w => ff (fitP_b.mp w)
      obtain ⟨s1, s2, s3⟩ := skip (Or.inl (by rw [lT_e, cite_n ff]))
      rw [if_neg ff', nI_1, s2, s3, ← s1]
      exact ih (l + 1) (by omega) w
    have ff' : fitP (bM M (Int32.toNatClampNeg (M 0 70)) (pM M x s n l) (lR C M x s)) x (Int32.toNatClampNeg (M 52 l)) := fitP_b.mpr ff
    rw [if_pos ff', if_pos i40]
    simp only [cl]
    rw [bM_n npl, e53]
    by_cases z0 : lL M l = 0
    · obtain ⟨s1, s2, s3⟩ := skip (Or.inl (by omega))
      rw [z0, if_pos (by decide : nI 0 = 0), nI_1, s2, s3, ← s1]
      exact ih (l + 1) (by omega) w
    have et : lT C M x s l = min (nN C x s q - lG C M x s q l) (lL M l) := by rw [lT_e, cite_p ff, eq]
    have tp : 0 < lT C M x s l := by rw [et]; omega
    have eo : lO C M x s (pM M x s n (l + 1)) (Int32.toNatClampNeg (M 0 70)) = lO C M x s (pM M x s n l) (Int32.toNatClampNeg (M 0 70)) ||| (1 : Int32) <<< (M 52 l &&& 31) := orS_a _ _ _ _ _ npl (pM_s e15 (by rw [hq]; exact eq)) tp _ hl'
    have eg : nN C x s q - lG C M x s q l - lT C M x s l = nN C x s q - lG C M x s q (l + 1) := by rw [lG_s, cite_p eq]; omega
    have fin : ∀ w, am_ev (d + 3) 239 137 [.ref 0, .int (nI s), .int (lO C M x s (pM M x s n l) (Int32.toNatClampNeg (M 0 70))), .int (nI (24 * xb x + n)), .int (nI (nN C x s q - lG C M x s q l)), .int (nI l), w] [.int (nI (lT C M x s l))] (bM M (Int32.toNatClampNeg (M 0 70)) (pM M x s n l) (lR C M x s), J, tm_R, tm_S, 77, 21637) = am_ev (d + 3) 239 56 [.ref 0, .int (nI s), .int (lO C M x s (pM M x s n (l + 1)) (Int32.toNatClampNeg (M 0 70))), .int (nI (24 * xb x + n)), .int (nI (nN C x s q - lG C M x s q (l + 1))), .int (nI (l + 1)), .int (nI (lT C M x s l))] [] (bM M (Int32.toNatClampNeg (M 0 70)) (pM M x s n (l + 1)) (lR C M x s), J, tm_R, tm_S, 77, 21637) := by
      intro w
      rw [b239_137, if_pos i40, if_pos i40, if_pos i40]
      simp only [cl]
      rw [bM_n npl, e53, bM_f (a := 52) (by omega), nI_sub (by omega) tl, nI_sub (by omega) (by rw [et]; omega), nI_1, bM_s hl' (show nI (lL M l - lT C M x s l) = nI (lR C M x s l) from rfl) (Q := pM M x s n (l + 1)) (pM_s e15 (by rw [hq]; exact eq)), eo, eg]
    rw [if_neg (nI_ne0 (by omega) (by omega)), if_pos i40]
    by_cases c : nN C x s q - lG C M x s q l ≤ lL M l
    · rw [if_pos (nI_le c (by omega))]
      have e1 : nI (nN C x s q - lG C M x s q l) = nI (lT C M x s l) := by rw [et, Nat.min_eq_left c]
      have f1 := fin w
      rw [← e1] at f1
      obtain ⟨v4, v5, v6, e⟩ := ih (l + 1) (by omega) (.int (nI (nN C x s q - lG C M x s q l)))
      exact ⟨v4, v5, v6, f1.trans e⟩
    · rw [if_neg (nI_ge (by omega) (by omega)), if_pos i40]
      have e1 : nI (lL M l) = nI (lT C M x s l) := by rw [et, Nat.min_eq_right (by omega)]
      rw [e1]
      obtain ⟨v4, v5, v6, e⟩ := ih (l + 1) (by omega) (.int (nI (lT C M x s l)))
      exact ⟨v4, v5, v6, (fin w).trans e⟩
/-- all needs -/
theorem Rl.tpM (h : Rl x C M J) {s : Nat} (hs : s < 6) (d : Nat) : ∃ v3 v4 v5 v6, am_G (am_ev (d + 3)) 239 [.ref 0, .int (nI s)] (M, J, tm_R, tm_S, 77, 21637) = am_call (am_G (am_ev (d + 2)) 224 [.ref 0, .int (M 0 89), .int (nI s)] (bM M (Int32.toNatClampNeg (M 0 70)) (fun _ => True) (lR C M x s), J, tm_R, tm_S, 77, 21637)) (fun r M' => am_ev (d + 3) 239 192 [.ref 0, .int (nI s), .int (lO C M x s (fun _ => True) (Int32.toNatClampNeg (M 0 70))), v3, v4, v5, v6] (r.toList ++ [.int 1]) M') := by
  have hx := xb1 x
  have n70 := h.nlB.cl (by omega)
  have b14 := h.n14.2.cl (by omega)
  have e14 := h.n14.2.eq (by omega)
  obtain ⟨_, d2, d3⟩ := h.P.2.2.2.2.2.1
  have e24 : (24 : Int32) * M 0 12 = nI (24 * xb x) := by rw [h.B]; exact nI_mul 24 (xb x)
  have run : ∀ k n, n + k = Int32.toNatClampNeg (M 14 (xb x)) → ∀ v4 v5 v6, ∃ w4 w5 w6, am_ev (d + 3) 239 10 [.ref 0, .int (nI s), .int (lO C M x s (pM M x s n 0) (Int32.toNatClampNeg (M 0 70))), .int (nI (24 * xb x + n)), v4, v5, v6] [] (bM M (Int32.toNatClampNeg (M 0 70)) (pM M x s n 0) (lR C M x s), J, tm_R, tm_S, 77, 21637) = am_ev (d + 3) 239 10 [.ref 0, .int (nI s), .int (lO C M x s (pM M x s (Int32.toNatClampNeg (M 14 (xb x))) 0) (Int32.toNatClampNeg (M 0 70))), .int (nI (24 * xb x + Int32.toNatClampNeg (M 14 (xb x)))), w4, w5, w6] [] (bM M (Int32.toNatClampNeg (M 0 70)) (pM M x s (Int32.toNatClampNeg (M 14 (xb x))) 0) (lR C M x s), J, tm_R, tm_S, 77, 21637) := by
    intro k
    induction k with
    | zero =>
      intro n hn v4 v5 v6
      obtain rfl : n = Int32.toNatClampNeg (M 14 (xb x)) := by omega
      exact ⟨v4, v5, v6, rfl⟩
    | succ k ih =>
      intro n hn v4 v5 v6
      have gn := d2 n (by omega)
      have i48 : am_in (nI (24 * xb x + n)) 48 := nI_in (by omega) (by omega)
      have c48 : (nI (24 * xb x + n)).toNatClampNeg = 24 * xb x + n := nI_clamp (by omega)
      have gl : ¬ nI (24 * xb x) + M 14 (xb x) ≤ nI (24 * xb x + n) := by rw [e14, nI_add]; exact nI_ge (by omega) (by omega)
      have st : am_ev (d + 3) 239 10 [.ref 0, .int (nI s), .int (lO C M x s (pM M x s n 0) (Int32.toNatClampNeg (M 0 70))), .int (nI (24 * xb x + n)), v4, v5, v6] [] (bM M (Int32.toNatClampNeg (M 0 70)) (pM M x s n 0) (lR C M x s), J, tm_R, tm_S, 77, 21637) = (if M 15 (24 * xb x + n) = nI s then am_ev (d + 3) 239 56 [.ref 0, .int (nI s), .int (lO C M x s (pM M x s n 0) (Int32.toNatClampNeg (M 0 70))), .int (nI (24 * xb x + n)), .int (M 16 (24 * xb x + n)), .int 0, v6] [] (bM M (Int32.toNatClampNeg (M 0 70)) (pM M x s n 0) (lR C M x s), J, tm_R, tm_S, 77, 21637) else am_ev (d + 3) 239 56 [.ref 0, .int (nI s), .int (lO C M x s (pM M x s n 0) (Int32.toNatClampNeg (M 0 70))), .int (nI (24 * xb x + n)), .int 0, .int 0, v6] [] (bM M (Int32.toNatClampNeg (M 0 70)) (pM M x s n 0) (lR C M x s), J, tm_R, tm_S, 77, 21637)) := by
        rw [b239_10, bM_f (a := 0) (b := 12) (by omega), if_pos h.inB]
        simp only [h.cB, e24]
        rw [bM_f (a := 14) (by omega), if_neg gl, if_pos i48]
        simp only [c48]
        rw [bM_f (a := 15) (by omega), bM_f (a := 16) (by omega), if_pos i48]
      rw [st]
      by_cases e15 : M 15 (24 * xb x + n) = nI s
      · rw [if_pos e15]
        obtain ⟨u4, u5, u6, e⟩ := h.tkM hs (by omega) e15 d (Int32.toNatClampNeg (M 0 70)) 0 (by omega) v6
        have z : lG C M x s (Int32.toNatClampNeg (M 17 (24 * xb x + n))) 0 = 0 := rfl
        have eN : nI (nN C x s (Int32.toNatClampNeg (M 17 (24 * xb x + n)))) = M 16 (24 * xb x + n) := by
          unfold nN
          rw [h.ndk hs (by omega) e15]
          exact (gn.2.2.2.2.1.eq (by omega)).symm
        rw [z, Nat.sub_zero, eN] at e
        obtain ⟨w4, w5, w6, e2⟩ := ih (n + 1) (by omega) u4 u5 u6
        exact ⟨w4, w5, w6, e.trans e2⟩
      · rw [if_neg e15]
        have al : ∀ j, pM M x s n 0 j ↔ pM M x s (n + 1) 0 j := by
          intro j
          unfold pM
          constructor
          · rintro (⟨i, hi, e⟩ | e)
            · exact Or.inl ⟨i, by omega, e⟩
            · omega
          · rintro (⟨i, hi, e⟩ | e)
            · by_cases z : i = n
              · subst z; exact absurd e.1 e15
              · exact Or.inl ⟨i, by omega, e⟩
            · omega
        obtain ⟨a1, a2⟩ := h.alM s _ _ (fun j _ => Or.inl (al j))
        have ex : am_ev (d + 3) 239 56 [.ref 0, .int (nI s), .int (lO C M x s (pM M x s n 0) (Int32.toNatClampNeg (M 0 70))), .int (nI (24 * xb x + n)), .int 0, .int 0, v6] [] (bM M (Int32.toNatClampNeg (M 0 70)) (pM M x s n 0) (lR C M x s), J, tm_R, tm_S, 77, 21637) = am_ev (d + 3) 239 10 [.ref 0, .int (nI s), .int (lO C M x s (pM M x s (n + 1) 0) (Int32.toNatClampNeg (M 0 70))), .int (nI (24 * xb x + (n + 1))), .int 0, .int 0, v6] [] (bM M (Int32.toNatClampNeg (M 0 70)) (pM M x s (n + 1) 0) (lR C M x s), J, tm_R, tm_S, 77, 21637) := by
          rw [b239_56, if_pos (Int32.le_refl 0), ite_self, a1, a2, nI_1]; rfl
        rw [ex]
        exact ih (n + 1) (by omega) _ _ _
  obtain ⟨w4, w5, w6, e⟩ := run (Int32.toNatClampNeg (M 14 (xb x))) 0 (by omega) am_un am_un am_un
  have p0 : ∀ j, ¬ pM M x s 0 0 j := by
    intro j
    unfold pM
    rintro (⟨i, hi, _⟩ | z)
    · omega
    · omega
  have z0 : bM M (Int32.toNatClampNeg (M 0 70)) (pM M x s 0 0) (lR C M x s) = M := by
    funext a b
    unfold bM
    rw [cite_n (fun w => p0 _ w.2.2)]
  have z1 : lO C M x s (pM M x s 0 0) (Int32.toNatClampNeg (M 0 70)) = 0 := by
    have : ∀ n, lO C M x s (pM M x s 0 0) n = 0 := by
      intro n
      induction n with
      | zero => rfl
      | succ n ih =>
        have : lO C M x s (pM M x s 0 0) (n + 1) = lO C M x s (pM M x s 0 0) n ||| cite (pM M x s 0 0 n ∧ 0 < lT C M x s n) (lV M n) 0 := rfl
        rw [this, ih, cite_n (fun w => p0 _ w.1)]; rfl
    exact this _
  rw [z0, z1] at e
  obtain ⟨a1, a2⟩ := h.alM s (pM M x s (Int32.toNatClampNeg (M 14 (xb x))) 0) (fun _ => True) (fun j hj => by
    by_cases z : pM M x s (Int32.toNatClampNeg (M 14 (xb x))) 0 j
    · exact Or.inl ⟨fun _ => trivial, fun _ => z⟩
    · refine Or.inr (tT_0 _ _ _ _ (l := 0) ?_ (by omega))
      obtain ⟨_, _, _, _, q8, _⟩ := h.lR60 s hj
      rcases h.ndq hs q8 with w | ⟨k, hk, w1, w2, _⟩
      · have : nN C x s (lQ M j) = 0 := by unfold nN; rw [w.1]; rfl
        omega
      · exact absurd (Or.inl ⟨k, hk, w1, by (rw [w2]; (try simp (disch := omega) only [nI_clamp]))⟩) z)
  rw [a1, a2] at e
  refine ⟨.int (nI (24 * xb x + Int32.toNatClampNeg (M 14 (xb x)))), w4, w5, w6, ?_⟩
  rw [b239_0, e24]
  refine e.trans ?_
  have ge : nI (24 * xb x) + M 14 (xb x) ≤ nI (24 * xb x + Int32.toNatClampNeg (M 14 (xb x))) := by
    have q : nI (24 * xb x) + M 14 (xb x) = nI (24 * xb x + Int32.toNatClampNeg (M 14 (xb x))) := by
      conv => lhs; rw [e14]
      exact nI_add _ _
    rw [q]; exact Int32.le_refl _
  rw [b239_10, bM_f (a := 0) (b := 12) (by omega), if_pos h.inB]
  simp only [h.cB, e24]
  rw [bM_f (a := 14) (by omega), if_pos ge, bM_f (a := 0) (b := 89) (by omega)]
end BLD
