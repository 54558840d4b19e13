/-! goOn -/
section GON
variable {x : Bool} {C M : tI} {J Jc : tJ}
/-- what the first n orders ask of a size -/
def asF (M : tI) (x : Bool) (v : Int32) (k : Nat) (a : Int32) : Int32 := a + (if M 27 (8 * xb x + k) = v then M 28 (8 * xb x + k) else 0)
def asS (M : tI) (x : Bool) (v : Int32) (n : Nat) : Int32 := lp (asF M x v) n 0
theorem asF_e (M : tI) (x : Bool) (v : Int32) (k : Nat) (a : Int32) : asF M x v k a = a + (if M 27 (8 * xb x + k) = v then M 28 (8 * xb x + k) else 0) := rfl
theorem Rl.asM (h : Rl x C M J) (v : Int32) {n : Nat} (hn : n ≤ 8) (d : Nat) : am_G (am_ev (d + 2)) 248 [.ref 0, .int v, .int (nI n)] (M, J, tm_R, tm_S, 77, 21637) = some (some (.int (asS M x v n)), (M, J, tm_R, tm_S, 77, 21637)) := by
  have hx := xb1 x
  have run := lp_run (fun (a : Int32) l => am_ev (d + 2) 248 5 [.ref 0, .int v, .int (nI n), .int a, .int (nI l)] [] (M, J, tm_R, tm_S, 77, 21637)) n (asF M x v) (by
    intro a l hl
    try dsimp only
    have i16 : am_in (nI (8 * xb x + l)) 16 := nI_in (by omega) (by omega)
    have c16 : (nI (8 * xb x + l)).toNatClampNeg = 8 * xb x + l := nI_clamp (by omega)
    rw [b248_5, if_neg (nI_ge hl (by omega)), m_order8, am_call_s, am_toL, b248_22, h.ix8, if_pos i16]
    simp only [c16]
    rw [asF_e, nI_1]
    by_cases q : M 27 (8 * xb x + l) = v
    · rw [if_pos q, if_pos q, m_order8, am_call_s, am_toL, b248_37, h.ix8, if_pos i16]
      simp only [c16]
      rw [nI_1]
    · rw [if_neg q, if_neg q]) 0
  try dsimp only at run
  rw [b248_0]
  refine run.trans ?_
  rw [b248_5, if_pos (Int32.le_refl _)]
  rfl
theorem i59 : am_in (5 : Int32) 9 := by decide
theorem c59 : (Int32.toNatClampNeg 5) = 5 := rfl
theorem Rl.asC (h : Rl x C M J) (v : Int32) (d : Nat) : am_G (am_ev (d + 1)) 63 [.ref (tc_P x), .int v] (C, Jc, (tc_R x), tc_S, 289, 11479) = some (some (.int (asS M x v (Int32.toNatClampNeg (M 26 (xb x))))), (C, Jc, (tc_R x), tc_S, 289, 11479)) := by
  have b26 := h.n26.2.cl (by omega)
  have e26 := h.n26.2.eq (by omega)
  have run := lp_run (fun (a : Int32) l => am_ev (d + 1) 63 4 [.ref (tc_P x), .int v, .int a, .int (nI l)] [] (C, Jc, (tc_R x), tc_S, 289, 11479)) (Int32.toNatClampNeg (M 26 (xb x))) (asF M x v) (by
    intro a l hl
    try dsimp only
    have go := h.P.2.2.2.2.2.2.2.1.2 l hl
    have i8 : am_in (nI l) 8 := nI_in (by omega) (by omega)
    have cl : (nI l).toNatClampNeg = l := nI_clamp (by omega)
    have gl : ¬ M 26 (xb x) ≤ nI l := by rw [e26]; exact nI_ge hl (by omega)
    rw [b63_4, if_pos i59, c59, h.n26.1, if_neg gl, if_pos i8]
    simp only [cl]
    rw [go.1, if_pos i8, go.2.1, asF_e, nI_1]
    by_cases q : M 27 (8 * xb x + l) = v
    · rw [if_pos q, if_pos q]
    · rw [if_neg q, if_neg q, Int32.add_zero]) 0
  try dsimp only at run
  rw [b63_0]
  refine run.trans ?_
  rw [b63_4, if_pos i59, c59, h.n26.1, if_pos (by rw [← e26]; exact Int32.le_refl _)]
  rfl
/-- tyres that are not scrapped -/
def nsF (M : tI) (v : Int32) (t : Nat) (a : Int32) : Int32 := a + (if M 54 t = v ∧ M 55 t ≠ 3 then 1 else 0)
def nsS (M : tI) (v : Int32) (n : Nat) : Int32 := lp (nsF M v) n 0
theorem nsF_e (M : tI) (v : Int32) (t : Nat) (a : Int32) : nsF M v t a = a + (if M 54 t = v ∧ M 55 t ≠ 3 then 1 else 0) := rfl
theorem Rl.nsM (h : Rl x C M J) (v : Int32) (d : Nat) : am_G (am_ev (d + 1)) 249 [.ref 0, .int v] (M, J, tm_R, tm_S, 77, 21637) = some (some (.int (nsS M v (Int32.toNatClampNeg (M 0 74)))), (M, J, tm_R, tm_S, 77, 21637)) := by
  have nt := h.ntB.cl (by omega)
  have et := h.ntB.eq (by omega)
  have run := lp_run (fun (a : Int32) l => am_ev (d + 1) 249 4 [.ref 0, .int v, .int a, .int (nI l)] [] (M, J, tm_R, tm_S, 77, 21637)) (Int32.toNatClampNeg (M 0 74)) (nsF M v) (by
    intro a l hl
    try dsimp only
    have i60 : am_in (nI l) 60 := nI_in (by omega) (by omega)
    have cl : (nI l).toNatClampNeg = l := nI_clamp (by omega)
    have gl : ¬ M 0 74 ≤ nI l := by rw [et]; exact nI_ge hl (by omega)
    rw [b249_4, if_neg gl, if_pos i60]
    simp only [cl]
    rw [if_pos i60, nsF_e, nI_1]
    by_cases q : M 54 l = v
    · rw [if_pos q]
      by_cases q2 : M 55 l = 3
      · rw [if_pos q2, if_neg (fun w => w.2 q2)]
      · rw [if_neg q2, if_pos ⟨q, q2⟩]
    · rw [if_neg q, if_neg (fun w => q w.1)]) 0
  try dsimp only at run
  rw [b249_0]
  refine run.trans ?_
  rw [b249_4, if_pos (by rw [← et]; exact Int32.le_refl _)]
  rfl
theorem ctF_e (M : tI) (s w : Int32) (t : Nat) (a : Int32) : ctF M s w t a = a + (if M 54 t = s ∧ M 55 t = w then 1 else 0) := rfl
theorem Rl.nsE (h : Rl x C M J) (v : Int32) : ∀ n, n ≤ Int32.toNatClampNeg (M 0 74) → ctS M v 0 n + ctS M v 1 n + ctS M v 2 n = nsS M v n := by
  intro n
  induction n with
  | zero => intro _; rfl
  | succ n ih =>
    intro hn
    have e0 : ∀ w, ctS M v w (n + 1) = ctF M v w n (ctS M v w n) := fun _ => rfl
    have e1 : nsS M v (n + 1) = nsF M v n (nsS M v n) := rfl
    rw [e0, e0, e0, e1, ctF_e, ctF_e, ctF_e, nsF_e, ← ih (by omega)]
    have g := h.H.2.2.2.1 n (by omega)
    obtain ⟨k, hk, ek⟩ := g.2.2.2.2.2.2.2.2.2.1
    have ac : ∀ a b c : Int32, a + 1 + b + c = a + b + c + 1 := by intro a b c; rw [Int32.add_assoc a 1 b, Int32.add_comm 1 b, ← Int32.add_assoc a b 1, Int32.add_assoc (a + b) 1 c, Int32.add_comm 1 c, ← Int32.add_assoc]
    have ac2 : ∀ a b c : Int32, a + (b + 1) + c = a + b + c + 1 := by intro a b c; rw [← Int32.add_assoc a b 1, Int32.add_assoc (a + b) 1 c, Int32.add_comm 1 c, ← Int32.add_assoc]
    have ac3 : ∀ a b c : Int32, a + b + (c + 1) = a + b + c + 1 := by intro a b c; rw [← Int32.add_assoc]
    by_cases q : M 54 n = v
    · have hk4 : k = 0 ∨ k = 1 ∨ k = 2 ∨ k = 3 := by omega
      rcases hk4 with rfl | rfl | rfl | rfl
      · have e : M 55 n = 0 := ek
        rw [if_pos ⟨q, e⟩, if_neg (fun w => absurd (e.symm.trans w.2) (by decide)), if_neg (fun w => absurd (e.symm.trans w.2) (by decide)), if_pos ⟨q, fun w => absurd (e.symm.trans w) (by decide)⟩, Int32.add_zero, Int32.add_zero, ac]
      · have e : M 55 n = 1 := ek
        rw [if_neg (fun w => absurd (e.symm.trans w.2) (by decide)), if_pos ⟨q, e⟩, if_neg (fun w => absurd (e.symm.trans w.2) (by decide)), if_pos ⟨q, fun w => absurd (e.symm.trans w) (by decide)⟩, Int32.add_zero, Int32.add_zero, ac2]
      · have e : M 55 n = 2 := ek
        rw [if_neg (fun w => absurd (e.symm.trans w.2) (by decide)), if_neg (fun w => absurd (e.symm.trans w.2) (by decide)), if_pos ⟨q, e⟩, if_pos ⟨q, fun w => absurd (e.symm.trans w) (by decide)⟩, Int32.add_zero, Int32.add_zero, ac3]
      · have e : M 55 n = 3 := ek
        rw [if_neg (fun w => absurd (e.symm.trans w.2) (by decide)), if_neg (fun w => absurd (e.symm.trans w.2) (by decide)), if_neg (fun w => absurd (e.symm.trans w.2) (by decide)), if_neg (fun w => w.2 e), Int32.add_zero, Int32.add_zero, Int32.add_zero, Int32.add_zero]
    · rw [if_neg (fun w => q w.1), if_neg (fun w => q w.1), if_neg (fun w => q w.1), if_neg (fun w => q w.1), Int32.add_zero, Int32.add_zero, Int32.add_zero, Int32.add_zero]
/-- the next size to be built -/
abbrev nzP (M : tI) (x : Bool) (k : Nat) : Prop := ¬ asS M x (M 27 (8 * xb x + k)) (Int32.toNatClampNeg (M 26 (xb x))) ≤ nsS M (M 27 (8 * xb x + k)) (Int32.toNatClampNeg (M 0 74)) ∧ cbP M x (Int32.toNatClampNeg (M 27 (8 * xb x + k)))
def nzO (M : tI) (x : Bool) : Option Nat := fnd (fun k => decide (nzP M x k)) (Int32.toNatClampNeg (M 26 (xb x))) 0
def nzV (M : tI) (x : Bool) : Int32 := match nzO M x with
  | some k => M 27 (8 * xb x + k)
  | none => -1
theorem Rl.nzM (h : Rl x C M J) (d : Nat) : am_G (am_ev (d + 6)) 250 [.ref 0] (M, J, tm_R, tm_S, 77, 21637) = some (some (.int (nzV M x)), (M, J, tm_R, tm_S, 77, 21637)) := by
  have hx := xb1 x
  have b26 := h.n26.2.cl (by omega)
  have e26 := h.n26.2.eq (by omega)
  have b11 := h.n11.2.cl (by omega)
  have run : ∀ k l v, l + k = Int32.toNatClampNeg (M 26 (xb x)) → am_ev (d + 6) 250 2 [.ref 0, .int (nI l), v] [] (M, J, tm_R, tm_S, 77, 21637) = some (some (.int (match fnd (fun k => decide (nzP M x k)) k l with
      | some k => M 27 (8 * xb x + k)
      | none => -1)), (M, J, tm_R, tm_S, 77, 21637)) := by
    intro k
    induction k with
    | zero =>
      intro l v hl
      rw [b250_2, if_pos h.inB]
      simp only [h.cB]
      rw [if_pos (by rw [e26]; exact nI_le (by omega) (by omega))]; rfl
    | succ k ih =>
      intro l v hl
      have go := h.P.2.2.2.2.2.2.2.1.2 l (by omega)
      have i16 : am_in (nI (8 * xb x + l)) 16 := nI_in (by omega) (by omega)
      have c16 : (nI (8 * xb x + l)).toNatClampNeg = 8 * xb x + l := nI_clamp (by omega)
      have gl : ¬ M 26 (xb x) ≤ nI l := by rw [e26]; exact nI_ge (by omega) (by omega)
      obtain ⟨s, hs, es⟩ := go.2.2.2.1
      have ls := go.2.2.2.2.1
      have as := h.asM (M 27 (8 * xb x + l)) (n := Int32.toNatClampNeg (M 26 (xb x))) b26 (d + 3)
      rw [← e26] at as
      have cb := h.cbM (s := s) (by (rw [es] at ls; (try simp (disch := omega) only [nI_clamp] at ls)); exact ls) d
      have cs27 : Int32.toNatClampNeg (M 27 (8 * xb x + l)) = s := by rw [es]; exact nI_clamp (by omega)
      rw [← es] at cb
      rw [b250_2, if_pos h.inB]
      simp only [h.cB]
      rw [if_neg gl, m_order8, am_call_s, am_toL, b250_24, h.ix8, if_pos i16]
      simp only [c16]
      rw [h.nsM, am_call_s, am_toL, b250_31, if_pos h.inB]
      simp only [h.cB]
      rw [as, am_call_s, am_toL, b250_45, nI_1]
      unfold fnd
      by_cases q1 : asS M x (M 27 (8 * xb x + l)) (Int32.toNatClampNeg (M 26 (xb x))) ≤ nsS M (M 27 (8 * xb x + l)) (Int32.toNatClampNeg (M 0 74))
      · rw [if_pos q1, if_neg (by rw [decide_eq_true_eq]; exact fun w => w.1 q1)]
        exact ih _ _ (by omega)
      · (rw [if_neg q1]; (try simp only [cb]); rw [am_call_s, am_toL, b250_53, am_bif, nI_1])
        by_cases q2 : cbP M x s
        · rw [if_pos q2, if_pos (decide_eq_true ⟨q1, by rw [cs27]; exact q2⟩)]
        · rw [if_neg q2, if_neg (by rw [decide_eq_true_eq]; exact fun w => q2 (by have := w.2; rw [cs27] at this; exact this))]
          exact ih _ _ (by omega)
  rw [b250_0]
  exact run _ 0 am_un (by omega)
theorem Rl.nzC (h : Rl x C M J) (d : Nat) : am_G (am_ev (d + 5)) 36 [.ref 41] (C, Jc, (tc_R x), tc_S, 289, 11479) = some (some (.int (nzV M x)), (C, Jc, (tc_R x), tc_S, 289, 11479)) := by
  have hx := xb1 x
  have b26 := h.n26.2.cl (by omega)
  have e26 := h.n26.2.eq (by omega)
  have b11 := h.n11.2.cl (by omega)
  have run : ∀ k l v w, l + k = Int32.toNatClampNeg (M 26 (xb x)) → am_ev (d + 5) 36 2 [.ref 41, .int (nI l), v, w] [] (C, Jc, (tc_R x), tc_S, 289, 11479) = some (some (.int (match fnd (fun k => decide (nzP M x k)) k l with
      | some k => M 27 (8 * xb x + k)
      | none => -1)), (C, Jc, (tc_R x), tc_S, 289, 11479)) := by
    intro k
    induction k with
    | zero =>
      intro l v w hl
      rw [b36_2, if_pos i59, c59, h.n26.1, if_pos (by rw [e26]; exact nI_le (by omega) (by omega))]; rfl
    | succ k ih =>
      intro l v w hl
      have go := h.P.2.2.2.2.2.2.2.1.2 l (by omega)
      have i8 : am_in (nI l) 8 := nI_in (by omega) (by omega)
      have cl : (nI l).toNatClampNeg = l := nI_clamp (by omega)
      have gl : ¬ M 26 (xb x) ≤ nI l := by rw [e26]; exact nI_ge (by omega) (by omega)
      obtain ⟨s, hs, es⟩ := go.2.2.2.1
      have ls := go.2.2.2.2.1
      have cb := h.cbC (Jc := Jc) (s := s) (by (rw [es] at ls; (try simp (disch := omega) only [nI_clamp] at ls)); exact ls) d
      have cs27 : Int32.toNatClampNeg (M 27 (8 * xb x + l)) = s := by rw [es]; exact nI_clamp (by omega)
      rw [← es] at cb
      rw [b36_2, if_pos i59, c59, h.n26.1, if_neg gl, if_pos i8]
      simp only [cl]
      rw [go.1, h.ctC, am_call_s, am_toL, b36_31, h.ctC, am_call_s, am_toL, b36_37, h.ctC, am_call_s, am_toL, b36_44, h.asC, am_call_s, am_toL, b36_55, h.nsE _ _ (Nat.le_refl _), nI_1]
      unfold fnd
      by_cases q1 : asS M x (M 27 (8 * xb x + l)) (Int32.toNatClampNeg (M 26 (xb x))) ≤ nsS M (M 27 (8 * xb x + l)) (Int32.toNatClampNeg (M 0 74))
      · rw [if_pos q1, if_neg (by rw [decide_eq_true_eq]; exact fun w => w.1 q1)]
        exact ih _ _ _ (by omega)
      · (rw [if_neg q1]; (try simp only [cb]); rw [am_call_s, am_toL, b36_63, am_bif, nI_1])
        by_cases q2 : cbP M x s
        · rw [if_pos q2, if_pos (decide_eq_true ⟨q1, by rw [cs27]; exact q2⟩)]
        · rw [if_neg q2, if_neg (by rw [decide_eq_true_eq]; exact fun w => q2 (by have := w.2; rw [cs27] at this; exact this))]
          exact ih _ _ _ (by omega)
  rw [b36_0]
  exact run _ 0 am_un am_un (by omega)
theorem Rl.nzP' (h : Rl x C M J) : nzV M x = -1 ∨ ∃ s, s < Int32.toNatClampNeg (M 11 (xb x)) ∧ s < 6 ∧ nzV M x = nI s ∧ cbP M x s := by
  have b11 := h.n11.2.cl (by omega)
  unfold nzV
  cases e : nzO M x with
  | none => exact Or.inl rfl
  | some k =>
    refine Or.inr ?_
    obtain ⟨_, h2, h3, _⟩ := fnd_some _ _ _ e
    have h3 := of_decide_eq_true h3
    have go := h.P.2.2.2.2.2.2.2.1.2 k (by omega)
    exact ⟨_, go.2.2.2.2.1, by have := go.2.2.2.2.1; omega, go.2.2.2.1.eq (by omega), h3.2⟩
/-- all presses cure if they can -/
noncomputable def cpX (C M : tI) (x : Bool) : Nat → tI × tI
  | 0 => (C, M)
  | p + 1 => (cuC (cpX C M x p).1 (cpX C M x p).2 x p, cuM (cpX C M x p).2 x p)
theorem cuM_f {p a b : Nat} (q : a ≠ 55 ∧ a ≠ 59 ∧ a ≠ 60 ∧ a ≠ 61 ∧ a ≠ 65 ∧ a ≠ 66 ∧ a ≠ 67) : cuM M x p a b = M a b := by
  unfold cuM
  cases nxM M x p with
  | none => rfl
  | some t =>
    show curM M x p t _ a b = M a b
    unfold curM
    exact fr7 (by omega) (by omega) (by omega) (by omega) (by omega) (by omega) (by omega)
theorem cpX_f {a b : Nat} (q : a ≠ 55 ∧ a ≠ 59 ∧ a ≠ 60 ∧ a ≠ 61 ∧ a ≠ 65 ∧ a ≠ 66 ∧ a ≠ 67) : ∀ p, (cpX C M x p).2 a b = M a b := by
  intro p
  induction p with
  | zero => rfl
  | succ p ih =>
    show cuM (cpX C M x p).2 x p a b = M a b
    rw [cuM_f q, ih]
theorem Rl.cp (h : Rl x C M J) : ∀ p, p ≤ 4 → Rl x (cpX C M x p).1 (cpX C M x p).2 J := by
  intro p
  induction p with
  | zero => intro _; exact h
  | succ p ih => intro hp; exact (ih (by omega)).cu (by omega)
end GON
