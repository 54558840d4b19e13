/-! wave -/
section WV2
variable {x : Bool} {C M : tI} {J Jc : tJ}
theorem Rl.zt (h : Rl x C M J) : Rl x (am_u2 C 1 2 0) (am_u2 M 0 1 0) J := by
  refine h.tape ⟨by rw [u2_s, u2_s], by rw [u2_s]; exact ⟨0, by omega, rfl⟩, fun j hj => ?_⟩ (fun a b q1 q2 => fr1 (by omega)) (fun a b q1 q2 => fr1 (by omega))
  rw [u2_c (by omega), u2_c (by omega)]
  exact h.T.2.2 j hj
/-- the model's row of waves with k bytes of the tape at place p -/
def wrM (M : tI) (p k : Nat) : tI := fun a b => if a = 63 ∧ p ≤ b ∧ b < p + k then M 1 (b - p) else M a b
theorem wrM_s (M : tI) (p k : Nat) : am_u2 (wrM M p k) 63 (p + k) (M 1 k) = wrM M p (k + 1) := by
  funext a b
  unfold am_u2 wrM
  by_cases q : a = 63 ∧ b = p + k
  · rw [if_pos q, if_pos ⟨q.1, by omega, by omega⟩, show b - p = k by omega]
  · rw [if_neg q]
    try dsimp only
    by_cases q2 : a = 63 ∧ p ≤ b ∧ b < p + k
    · rw [if_pos q2, if_pos ⟨q2.1, by omega, by omega⟩]
    · rw [if_neg q2, if_neg (fun w => q2 ⟨w.1, by omega, by omega⟩)]
theorem wrM_0 (M : tI) (p : Nat) : wrM M p 0 = M := by
  funext a b
  unfold wrM
  rw [if_neg (fun w => by omega)]
theorem m_wave (M : tI) (J : tJ) (a : Int32) {p : Nat} (hp : p + 8 ≤ 488) (ha : (a = -1 ∧ p = 480) ∨ (a ≠ -1 ∧ 8 * a = nI p)) (u : Option (Nat ⊕ Int32)) : am_ev 100 274 45 [.ref 0, .int a, am_wk u, .int (nI 0)] [] (M, J, tm_R, tm_S, 77, 21637) = some (some (.int 1), (wrM M p 8, J, tm_R, tm_S, 77, 21637)) := by
  have run : ∀ k, k ≤ 8 → am_ev 100 274 45 [.ref 0, .int a, am_wk u, .int (nI 0)] [] (M, J, tm_R, tm_S, 77, 21637) = am_ev 100 274 45 [.ref 0, .int a, am_wk u, .int (nI k)] [] (wrM M p k, J, tm_R, tm_S, 77, 21637) := by
    intro k
    induction k with
    | zero => intro _; rw [wrM_0]
    | succ k ih =>
      intro hk
      have e8 : ∀ s1 s2 : Int32, s1 * s2 = nI p → am_ev 100 274 68 [.ref 0, .int a, am_wk u, .int (nI k)] [.int s2, .int s1, .ref 63] (wrM M p k, J, tm_R, tm_S, 77, 21637) = am_ev 100 274 45 [.ref 0, .int a, am_wk u, .int (nI (k + 1))] [] (wrM M p (k + 1), J, tm_R, tm_S, 77, 21637) := by
        intro s1 s2 es
        have ck : (nI k).toNatClampNeg = k := nI_clamp (by omega)
        have cp : (nI (p + k)).toNatClampNeg = p + k := nI_clamp (by omega)
        have r1 : wrM M p k 1 k = M 1 k := if_neg (fun w => by omega)
        rw [b274_68, if_pos (nI_in (by omega) (by omega)), es, nI_add, if_pos (nI_in (by omega) (by omega))]
        simp only [ck, cp]
        rw [r1, wrM_s, nI_1]
      rw [ih (by omega), b274_45, if_neg (show ¬ (8 : Int32) ≤ nI k from nI_ge (b := 8) (by omega) (by omega))]
      rcases ha with ⟨h1, h2⟩ | ⟨h1, h2⟩
      · rw [if_pos h1]
        exact e8 8 60 (by rw [h2]; rfl)
      · rw [if_neg h1]
        exact e8 8 a h2
  rw [run 8 (Nat.le_refl _), b274_45, if_pos (show (8 : Int32) ≤ nI 8 from Int32.le_refl _)]
theorem c_wave (C : tI) (J : tJ) (x : Bool) {r : Nat} (v1 v2 : Value) (hr : tc_S r = (20, 8)) (r3 : r ≠ 3) (rl : r < 289) : am_ev 100 145 78 [.ref 0, v1, v2] [.ref r, .int 0, .ref 3] (C, J, (tc_R x), tc_S, 289, 11479) = some (some (.int 1), (am_row C r (fun j => if j < 8 then C 3 j else C r j), J, (tc_R x), tc_S, 289, 11479)) := by
  have s3 : tc_S 3 = (20, 1600) := by decide +kernel
  have e : va_cpy (C 3) (C r) (Int32.toNatClampNeg 0) (Int32.toNatClampNeg (0 : Int32)) (Int32.toNatClampNeg (8 : Int32)) = fun j => if j < 8 then C 3 j else C r j := by
    funext j
    have c0 : Int32.toNatClampNeg 0 = 0 := rfl
    have c8 : Int32.toNatClampNeg 8 = 8 := rfl
    unfold va_cpy
    rw [c0, c8]
    by_cases q : j < 8
    · rw [if_pos ⟨by omega, by omega⟩, if_pos q, Nat.zero_add, Nat.sub_zero]
    · rw [if_neg (fun w => by omega), if_neg q]
  rw [b145_78, if_pos (by
    refine ⟨⟨by show (tc_S 3).1 = 20; rw [s3], by show 3 < 289; omega⟩, ⟨by show (tc_S r).1 = 20; rw [hr], rl⟩, fun w => r3 w.symm, by decide, by decide, by decide, by rw [s3]; decide, by rw [hr]; decide, by decide⟩), e]
theorem k_wave (h : Rl x C M J) (a : Int32) : Lk 145 274 [.int a] x C M Jc J := by
  obtain ⟨t1, t2, t3⟩ := h.T
  have hz := h.zt
  have bad := fun e1 e2 => (⟨0, x, _, _, J, e1, e2, hz.ref 5 (by omega)⟩ : Lk 145 274 [.int a] x C M Jc J)
  have hx := tc_P4 x
  have n74 := h.n74
  by_cases q : M 0 1 = 8
  rotate_left
  · refine bad (by rw [b145_0, t1, if_neg q, crk _ _ _ _ 5 5 rfl (by omega), am_call_s, am_toL, b145_43]) ?_
    rw [b274_0, if_neg q, mrk _ _ _ 5 5 rfl (by omega), am_call_s, am_toL, b274_34]
    exact if_pos (by decide)
  have z74 : am_u2 M 0 1 0 0 74 = M 0 74 := fr1 (by omega)
  have zt : ∀ j, am_u2 M 0 1 0 1 j = M 1 j := fun j => fr1 (by omega)
  have zc : ∀ j, am_u2 C 1 2 0 3 j = C 3 j := fun j => fr1 (by omega)
  -- the relation behind
  have fin : ∀ (r p : Nat), (r = 286 ∨ (150 < r ∧ r < 270 ∧ r % 2 = 1)) → ((∀ b, b < 8 → am_row (am_u2 C 1 2 0) r (fun j => if j < 8 then am_u2 C 1 2 0 3 j else am_u2 C 1 2 0 r j) r b = C 3 b) → (∀ a b, a ≠ r → am_row (am_u2 C 1 2 0) r (fun j => if j < 8 then am_u2 C 1 2 0 3 j else am_u2 C 1 2 0 r j) a b = am_u2 C 1 2 0 a b) → (∀ i, i < 8 → wrM (am_u2 M 0 1 0) p 8 63 (p + i) = M 1 i) → (∀ b, b < p ∨ p + 8 ≤ b → wrM (am_u2 M 0 1 0) p 8 63 b = M 63 b) → (∀ a b, a ≠ 63 → wrM (am_u2 M 0 1 0) p 8 a b = am_u2 M 0 1 0 a b) → rl_V (am_row (am_u2 C 1 2 0) r (fun j => if j < 8 then am_u2 C 1 2 0 3 j else am_u2 C 1 2 0 r j)) (wrM (am_u2 M 0 1 0) p 8)) → Rl x (am_row (am_u2 C 1 2 0) r (fun j => if j < 8 then am_u2 C 1 2 0 3 j else am_u2 C 1 2 0 r j)) (wrM (am_u2 M 0 1 0) p 8) J := by
    intro r p rb hv
    have fC : ∀ a b, a ≠ r → am_row (am_u2 C 1 2 0) r (fun j => if j < 8 then am_u2 C 1 2 0 3 j else am_u2 C 1 2 0 r j) a b = am_u2 C 1 2 0 a b := fun a b w => if_neg w
    have gC : ∀ b, b < 8 → am_row (am_u2 C 1 2 0) r (fun j => if j < 8 then am_u2 C 1 2 0 3 j else am_u2 C 1 2 0 r j) r b = C 3 b := by
      intro b hb
      unfold am_row
      rw [if_pos rfl]
      try dsimp only
      rw [if_pos hb, zc]
    have fM : ∀ a b, a ≠ 63 → wrM (am_u2 M 0 1 0) p 8 a b = am_u2 M 0 1 0 a b := fun a b w => if_neg (fun z => w z.1)
    have gM : ∀ i, i < 8 → wrM (am_u2 M 0 1 0) p 8 63 (p + i) = M 1 i := by
      intro i hi
      unfold wrM
      rw [if_pos ⟨rfl, by omega, by omega⟩, Nat.add_sub_cancel_left, zt]
    have nM : ∀ b, b < p ∨ p + 8 ≤ b → wrM (am_u2 M 0 1 0) p 8 63 b = M 63 b := by
      intro b hb
      unfold wrM
      rw [if_neg (fun w => by omega), fr1 (by omega)]
    obtain ⟨h0, hb, hl, ht, hp, hm⟩ := hz.H
    have n66 := hz.nbB.cl (by omega)
    have n70 := hz.nlB.cl (by omega)
    have z74' := hz.n74
    refine hz.flr ⟨h0.fr (fun b => fC 41 b (by omega)) (fun a b _ => fM a b (by omega)), hb.fr n66 (fun a b _ => fC a b (by omega)) (fun a b _ => fM a b (by omega)), hl.fr n70 (fun a b _ => fC a b (by omega)) (fun a b _ => fM a b (by omega)), ?_, ?_, hm.fr (fun a b _ => fC a b (by omega)) (fun a b _ => fM a b (by omega))⟩ ?_ (fun a b _ => fC a b (by omega)) (fun a b _ => fM a b (by omega))
    · intro u hu
      rw [fM 0 74 (by omega)] at hu
      have g := ht u hu
      simp only [fun b => fC (150 + 2 * u) b (by omega), fun b => fC 82 b (by omega), fun b => fM 54 b (by omega), fun b => fM 55 b (by omega), fun b => fM 56 b (by omega), fun b => fM 57 b (by omega), fun b => fM 58 b (by omega), fun b => fM 59 b (by omega), fun b => fM 60 b (by omega), fun b => fM 61 b (by omega), fun b => fM 62 b (by omega), fun b => fM 11 b (by omega), fun b => fM 13 b (by omega), fun b => fM 0 b (by omega)]
      exact g
    · unfold rl_Hp at hp ⊢
      simp only [fun b => fM 0 b (by omega), fun b => fM 13 b (by omega), fun b => fM 20 b (by omega), fun b => fM 22 b (by omega), fun b => fM 54 b (by omega), fun b => fM 55 b (by omega), fun b => fM 64 b (by omega), fun b => fM 65 b (by omega), fun b => fM 66 b (by omega)]
      refine ⟨fun p' hp' => ?_, hp.2⟩
      have g := hp.1 p' hp'
      rw [fC (270 + p') 0 (by omega), fC (270 + p') 1 (by omega), fC (270 + p') 2 (by omega)]
      refine ⟨g.1, g.2.1, g.2.2.1, g.2.2.2.1, ?_⟩
      rcases g.2.2.2.2 with w | w
      · exact Or.inl w
      · refine Or.inr ?_
        rw [fC (150 + 2 * Int32.toNatClampNeg (am_u2 M 0 1 0 65 p')) 6 (by omega)]
        exact w
    · exact hv gC fC gM nM fM
  obtain ⟨v1, v2, v3⟩ := h.V
  by_cases qa : a = -1
  · refine ⟨1, x, _, _, J, ?_, ?_, fin 286 480 (Or.inl rfl) (fun gC fC gM nM fM => ?_)⟩
    · rw [b145_0, t1, if_pos q, if_pos qa, b145_46, if_pos qa, c_wave _ Jc x _ _ (by decide +kernel) (by omega) (by omega)]
    · rw [b274_0, if_pos q, if_pos qa]
      exact m_wave (am_u2 M 0 1 0) J a (p := 480) (by omega) (Or.inl ⟨qa, rfl⟩) (some (.inr (M 0 1)))
    · unfold rl_V
      rw [fM 0 74 (by omega), z74]
      refine ⟨fun i hi => ?_, fun u i hu hi => ?_, fun u i hu hi => ?_⟩
      · rw [gC i hi, gM i hi]; exact t3 i (by omega)
      · rw [fC _ i (by omega), nM _ (by omega), fr1 (by omega)]; exact v2 u i hu hi
      · rw [nM _ (by omega)]; exact v3 u i hu hi
  · rcases hz.ty (Jc := Jc) a 98 97 with ⟨e1, e2⟩ | ⟨t, ht, rfl, h60, e1, e2⟩
    · refine bad (by rw [b145_0, t1, if_pos q, if_neg qa, e1, am_call_s, am_toL, b145_35, if_pos rfl, crk _ _ _ _ 5 5 rfl (by omega), am_call_s, am_toL, b145_43]) ?_
      rw [b274_0, if_pos q, if_neg qa, e2, am_call_s, am_toL]
      refine (b274_26 99 _ J a (some (.inr (M 0 1))) am_un 0).trans ?_
      rw [if_pos rfl, mrk _ _ _ 5 5 rfl (by omega), am_call_s, am_toL, b274_34]
      exact if_pos (by decide)
    · rw [z74] at ht
      have ct : (nI t).toNatClampNeg = t := nI_clamp (by omega)
      refine ⟨1, x, _, _, J, ?_, ?_, fin (150 + 2 * t + 1) (8 * t) (Or.inr (by omega)) (fun gC fC gM nM fM => ?_)⟩
      · rw [b145_0, t1, if_pos q, if_neg qa, e1, am_call_s, am_toL, b145_35, if_neg (by decide : ¬ (1 : Int32) = 0), b145_46, if_neg qa, if_pos (nI_in h60 (by omega))]
        simp only [ct]
        rw [if_pos (tt_k h60), tr_w x t h60]
        exact c_wave (am_u2 C 1 2 0) Jc x (r := 150 + 2 * t + 1) _ _ (ts_w t h60) (by omega) (by omega)
      · rw [b274_0, if_pos q, if_neg qa, e2, am_call_s, am_toL]
        refine (b274_26 99 _ J (nI t) (some (.inr (M 0 1))) am_un 1).trans ?_
        rw [if_neg (by decide : ¬ (1 : Int32) = 0)]
        exact m_wave (am_u2 M 0 1 0) J (nI t) (p := 8 * t) (by omega) (Or.inr ⟨qa, nI_mul 8 t⟩) (some (.inr (M 0 1)))
      · unfold rl_V
        rw [fM 0 74 (by omega), z74]
        refine ⟨fun i hi => ?_, fun u i hu hi => ?_, fun u i hu hi => ?_⟩
        · rw [fC 286 i (by omega), nM _ (by omega), fr1 (by omega)]; exact v1 i hi
        · by_cases e : u = t
          · subst e; rw [gC i hi, gM i hi]; exact (t3 i (by omega)).1
          · rw [fC _ i (by omega), nM _ (by omega), fr1 (by omega)]; exact v2 u i hu hi
        · by_cases e : u = t
          · subst e; rw [gM i hi]; exact ⟨(t3 i (by omega)).2, fun w => by omega⟩
          · rw [nM _ (by omega)]; exact v3 u i hu hi
end WV2
