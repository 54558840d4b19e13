/-! sums; pounds -/
def sm (f : Nat → Int32) : Nat → Int32
  | 0 => 0
  | n + 1 => sm f n + f n
theorem sm_s (f : Nat → Int32) (n : Nat) : sm f (n + 1) = sm f n + f n := rfl
theorem sm_lp (f : Nat → Int32) : ∀ n, lp (fun k a => a + f k) n 0 = sm f n := by
  intro n
  induction n with
  | zero => rfl
  | succ n ih => rw [lp_s, ih, sm_s]
theorem sm_c {f g : Nat → Int32} : ∀ n, (∀ k, k < n → f k = g k) → sm f n = sm g n := by
  intro n
  induction n with
  | zero => intro _; rfl
  | succ n ih => intro h; rw [sm_s, sm_s, ih (fun k hk => h k (by omega)), h n (by omega)]
theorem sm_0 : ∀ n, sm (fun _ => 0) n = 0 := by
  intro n
  induction n with
  | zero => rfl
  | succ n ih => rw [sm_s, ih]; rfl
theorem sm_add (f g : Nat → Int32) : ∀ n, sm (fun k => f k + g k) n = sm f n + sm g n := by
  intro n
  induction n with
  | zero => rfl
  | succ n ih =>
    rw [sm_s, sm_s, sm_s, ih, Int32.add_assoc, ← Int32.add_assoc (sm g n), Int32.add_comm (sm g n) (f n), Int32.add_assoc (f n), ← Int32.add_assoc]
theorem sm_mul (f : Nat → Int32) (c : Int32) : ∀ n, sm f n * c = sm (fun k => f k * c) n := by
  intro n
  induction n with
  | zero => exact Int32.zero_mul
  | succ n ih => rw [sm_s, sm_s, Int32.add_mul, ih]
theorem sm_swap (f : Nat → Nat → Int32) (m : Nat) : ∀ n, sm (fun i => sm (fun j => f i j) m) n = sm (fun j => sm (fun i => f i j) n) m := by
  intro n
  induction n with
  | zero => exact (sm_0 m).symm
  | succ n ih => rw [sm_s, ih, ← sm_add]; rfl
theorem sm_1 (v : Nat → Int32) (j : Nat) : ∀ n, j < n → sm (fun k => if k = j then v k else 0) n = v j := by
  intro n
  induction n with
  | zero => intro h; omega
  | succ n ih =>
    intro h
    rw [sm_s]
    by_cases e : n = j
    · subst e
      rw [if_pos rfl, sm_c n (g := fun _ => 0) (fun k hk => if_neg (by omega)), sm_0, Int32.zero_add]
    · rw [if_neg e, ih (by omega), Int32.add_zero]
section PND
variable {x : Bool} {C M : tI} {J Jc : tJ}
/-- pounds in a tyre of size s -/
def pO (M : tI) (x : Bool) (s : Nat) : Int32 := sm (fun k => if M 15 (24 * xb x + k) = nI s then M 16 (24 * xb x + k) * M 9 (8 * xb x + Int32.toNatClampNeg (M 17 (24 * xb x + k))) else 0) (Int32.toNatClampNeg (M 14 (xb x)))
theorem ndS_sm (M : tI) (b s q : Nat) : ∀ n, ndS M b s q n = sm (fun k => nd1 M b s q k) n := by
  intro n
  induction n with
  | zero => rfl
  | succ n ih => rw [sm_s, ← ih]; rfl
theorem Rl.pOC (h : Rl x C M J) {s : Nat} (hs : s < 6) (d : Nat) : am_G (am_ev (d + 1)) 62 [.ref (tc_P x), .int (nI s)] (C, Jc, (tc_R x), tc_S, 289, 11479) = some (some (.int (pO M x s)), (C, Jc, (tc_R x), tc_S, 289, 11479)) := by
  have hp4 := tc_P4 x
  have b6 := h.n6.2.cl (by omega)
  have e6 := h.n6.2.eq (by omega)
  have i6 : am_in (nI s) 6 := nI_in hs (by omega)
  have cs : (nI s).toNatClampNeg = s := nI_clamp (by omega)
  have run := lp_run (fun (a : Int32) l => am_ev (d + 1) 62 4 [.ref (tc_P x), .int (nI s), .int a, .int (nI l)] [] (C, Jc, (tc_R x), tc_S, 289, 11479)) (Int32.toNatClampNeg (M 6 (xb x))) (fun k a => a + C (tc_P x + 15 + s) k * M 9 (8 * xb x + k)) (by
    intro a l hl
    try dsimp only
    have gp := h.P.2.2.2.1 l hl
    have i8 : am_in (nI l) 8 := nI_in (by omega) (by omega)
    have cl : (nI l).toNatClampNeg = l := nI_clamp (by omega)
    have gl : ¬ M 6 (xb x) ≤ nI l := by rw [e6]; exact nI_ge hl (by omega)
    rw [b62_4, if_pos i19, c18, h.n6.1, if_neg gl, if_pos i6]
    simp only [cs, cl]
    rw [ts_nd x s hs, if_pos ⟨rfl, by omega⟩, if_pos i8, if_pos i8, gp.2.1, nI_1]) 0
  try dsimp only at run
  rw [b62_0]
  refine run.trans ?_
  rw [b62_4, if_pos i19, c18, h.n6.1, if_pos (by rw [← e6]; exact Int32.le_refl _), sm_lp]
  have e : sm (fun k => C (tc_P x + 15 + s) k * M 9 (8 * xb x + k)) (Int32.toNatClampNeg (M 6 (xb x))) = pO M x s := by
    obtain ⟨d1, d2, d3⟩ := h.P.2.2.2.2.2.1
    rw [sm_c _ (g := fun q => sm (fun k => nd1 M (xb x) s q k * M 9 (8 * xb x + q)) (Int32.toNatClampNeg (M 14 (xb x)))) (fun q hq => by rw [d1 s q hs (by omega), ndS_sm, sm_mul]), sm_swap]
    unfold pO
    refine sm_c _ (fun k hk => ?_)
    have g := d2 k hk
    have e17 := g.2.2.1.eq (by omega)
    have l17 := g.2.2.2.1
    by_cases q : M 15 (24 * xb x + k) = nI s
    · rw [if_pos q, ← sm_1 (fun q => M 16 (24 * xb x + k) * M 9 (8 * xb x + q)) _ _ l17]
      refine sm_c _ (fun p hp => ?_)
      unfold nd1
      by_cases z : p = Int32.toNatClampNeg (M 17 (24 * xb x + k))
      · rw [if_pos z, if_pos ⟨q, by rw [z]; exact e17⟩]
      · rw [if_neg z, if_neg (fun w => z (by have := w.2; rw [this, nI_clamp (by omega)])), Int32.zero_mul]
    · rw [if_neg q, sm_c _ (g := fun _ => 0) (fun p hp => by unfold nd1; rw [if_neg (fun w => q w.1), Int32.zero_mul]), sm_0]
  rw [e]
theorem Rl.pOM (h : Rl x C M J) (s d : Nat) : am_G (am_ev (d + 2)) 280 [.ref 0, .int (nI s)] (M, J, tm_R, tm_S, 77, 21637) = some (some (.int (pO M x s)), (M, J, tm_R, tm_S, 77, 21637)) := by
  have hx := xb1 x
  have b14 := h.n14.2.cl (by omega)
  have e14 := h.n14.2.eq (by omega)
  have e24 : (24 : Int32) * M 0 12 = nI (24 * xb x) := by rw [h.B]; exact nI_mul 24 (xb x)
  have run := lp_run (fun (a : Int32) l => am_ev (d + 2) 280 10 [.ref 0, .int (nI s), .int a, .int (nI (24 * xb x + l))] [] (M, J, tm_R, tm_S, 77, 21637)) (Int32.toNatClampNeg (M 14 (xb x))) (fun k a => a + if M 15 (24 * xb x + k) = nI s then M 16 (24 * xb x + k) * M 9 (8 * xb x + Int32.toNatClampNeg (M 17 (24 * xb x + k))) else 0) (by
    intro a l hl
    try dsimp only
    have g := h.P.2.2.2.2.2.1.2.1 l hl
    have i48 : am_in (nI (24 * xb x + l)) 48 := nI_in (by omega) (by omega)
    have c48 : (nI (24 * xb x + l)).toNatClampNeg = 24 * xb x + l := nI_clamp (by omega)
    have gl : ¬ nI (24 * xb x) + M 14 (xb x) ≤ nI (24 * xb x + l) := by rw [e14, nI_add]; exact nI_ge (by omega) (by omega)
    have b17 := g.2.2.1.cl (by omega)
    have e17 := g.2.2.1.eq (by omega)
    have ix : 8 * M 0 12 + M 17 (24 * xb x + l) = nI (8 * xb x + Int32.toNatClampNeg (M 17 (24 * xb x + l))) := by
      conv => lhs; rw [e17]
      exact h.ix8 _
    have c16 : (nI (8 * xb x + Int32.toNatClampNeg (M 17 (24 * xb x + l)))).toNatClampNeg = 8 * xb x + Int32.toNatClampNeg (M 17 (24 * xb x + l)) := nI_clamp (by omega)
    rw [b280_10, if_pos h.inB]
    simp only [h.cB, e24]
    rw [if_neg gl, if_pos i48]
    simp only [c48]
    rw [nI_1]
    by_cases q : M 15 (24 * xb x + l) = nI s
    · rw [if_pos q, if_pos q, if_pos i48, if_pos i48, m_part8, am_call_s, am_toL, b280_62, ix, if_pos (nI_in (by omega) (by omega))]
      simp only [c16]
      rw [nI_1]; rfl
    · rw [if_neg q, if_neg q]; rfl) 0
  try dsimp only at run
  rw [b280_0, e24]
  refine run.trans ?_
  have ge : nI (24 * xb x) + M 14 (xb x) ≤ nI (24 * xb x + Int32.toNatClampNeg (M 14 (xb x))) := by
    have q : nI (24 * xb x) + M 14 (xb x) = nI (24 * xb x + Int32.toNatClampNeg (M 14 (xb x))) := by
      conv => lhs; rw [e14]
      exact nI_add _ _
    rw [q]; exact Int32.le_refl _
  rw [b280_10, if_pos h.inB]
  simp only [h.cB, e24]
  rw [if_pos ge, sm_lp]
  rfl
/-- pounds by where they are -/
def pV (M : tI) (x : Bool) (w : Nat) : Int32 := match w with
  | 0 => sm (fun b => M 49 b) (Int32.toNatClampNeg (M 0 66))
  | 1 => sm (fun l => M 53 l * M 9 (8 * xb x + Int32.toNatClampNeg (M 51 l))) (Int32.toNatClampNeg (M 0 70))
  | w + 2 => sm (fun t => if M 55 t = nI w then pO M x (Int32.toNatClampNeg (M 54 t)) else 0) (Int32.toNatClampNeg (M 0 74))
theorem Rl.pbC (h : Rl x C M J) (d : Nat) : am_G (am_ev (d + 1)) 37 [.ref 41] (C, Jc, (tc_R x), tc_S, 289, 11479) = some (some (.int (pV M x 0)), (C, Jc, (tc_R x), tc_S, 289, 11479)) := by
  have nb := h.nbB.cl (by omega)
  have eb := h.nbB.eq (by omega)
  have run := lp_run (fun (a : Int32) l => am_ev (d + 1) 37 4 [.ref 41, .int a, .int (nI l)] [] (C, Jc, (tc_R x), tc_S, 289, 11479)) (Int32.toNatClampNeg (M 0 66)) (fun k a => a + M 49 k) (by
    intro a l hl
    try dsimp only
    have g := h.H.2.1 l hl
    have gl : ¬ M 0 66 ≤ nI l := by rw [eb]; exact nI_ge hl (by omega)
    have cl : (nI l).toNatClampNeg = l := nI_clamp (by omega)
    rw [b37_4, h.nb, if_neg gl, if_pos (nI_in (by omega) (by omega))]
    simp only [cl]
    rw [if_pos (tb_k (by omega)), g.2.1, nI_1]) 0
  try dsimp only at run
  rw [b37_0]
  refine run.trans ?_
  rw [b37_4, h.nb, if_pos (by rw [← eb]; exact Int32.le_refl _), sm_lp]
  rfl
theorem Rl.plC (h : Rl x C M J) (d : Nat) : am_G (am_ev (d + 1)) 38 [.ref 41] (C, Jc, (tc_R x), tc_S, 289, 11479) = some (some (.int (pV M x 1)), (C, Jc, (tc_R x), tc_S, 289, 11479)) := by
  have nl := h.nlB.cl (by omega)
  have el := h.nlB.eq (by omega)
  have run := lp_run (fun (a : Int32) l => am_ev (d + 1) 38 4 [.ref 41, .int a, .int (nI l)] [] (C, Jc, (tc_R x), tc_S, 289, 11479)) (Int32.toNatClampNeg (M 0 70)) (fun l a => a + M 53 l * M 9 (8 * xb x + Int32.toNatClampNeg (M 51 l))) (by
    intro a l hl
    try dsimp only
    have g := h.H.2.2.1 l hl
    have gl : ¬ M 0 70 ≤ nI l := by rw [el]; exact nI_ge hl (by omega)
    have cl : (nI l).toNatClampNeg = l := nI_clamp (by omega)
    have i40 : am_in (nI l) 40 := nI_in (by omega) (by omega)
    have gp := h.P.2.2.2.1 _ g.2.2.2.2.1
    rw [b38_4, h.nl, if_neg gl, if_pos i40]
    simp only [cl]
    rw [if_pos (tl_k (by omega)), if_pos i40, if_pos (tl_k (by omega)), g.1, if_pos (g.2.2.2.1.inn (by omega) (by omega)), g.2.2.1, gp.2.1, nI_1]) 0
  try dsimp only at run
  rw [b38_0]
  refine run.trans ?_
  rw [b38_4, h.nl, if_pos (by rw [← el]; exact Int32.le_refl _), sm_lp]
  rfl
theorem i29 : am_in (2 : Int32) 9 := by decide
theorem c29 : (Int32.toNatClampNeg 2) = 2 := rfl
theorem ctS_sm (M : tI) (s w : Int32) (n : Nat) : ctS M s w n = sm (fun t => if M 54 t = s ∧ M 55 t = w then 1 else 0) n := sm_lp _ n
theorem Rl.ptC (h : Rl x C M J) (w d : Nat) : am_G (am_ev (d + 2)) 39 [.ref 41, .int (nI w)] (C, Jc, (tc_R x), tc_S, 289, 11479) = some (some (.int (pV M x (w + 2))), (C, Jc, (tc_R x), tc_S, 289, 11479)) := by
  have b11 := h.n11.2.cl (by omega)
  have e11 := h.n11.2.eq (by omega)
  have run := lp_run (fun (a : Int32) l => am_ev (d + 2) 39 4 [.ref 41, .int (nI w), .int a, .int (nI l)] [] (C, Jc, (tc_R x), tc_S, 289, 11479)) (Int32.toNatClampNeg (M 11 (xb x))) (fun s a => a + ctS M (nI s) (nI w) (Int32.toNatClampNeg (M 0 74)) * pO M x s) (by
    intro a l hl
    try dsimp only
    have gl : ¬ M 11 (xb x) ≤ nI l := by rw [e11]; exact nI_ge hl (by omega)
    rw [b39_4, if_pos i29, c29, h.n11.1, if_neg gl, h.ctC, am_call_s, am_toL, b39_24, h.pOC (by omega), am_call_s, am_toL, b39_32, nI_1]) 0
  try dsimp only at run
  rw [b39_0]
  refine run.trans ?_
  rw [b39_4, if_pos i29, c29, h.n11.1, if_pos (by rw [← e11]; exact Int32.le_refl _), sm_lp]
  have e : sm (fun s => ctS M (nI s) (nI w) (Int32.toNatClampNeg (M 0 74)) * pO M x s) (Int32.toNatClampNeg (M 11 (xb x))) = pV M x (w + 2) := by
    rw [sm_c _ (g := fun s => sm (fun t => (if M 54 t = nI s ∧ M 55 t = nI w then 1 else 0) * pO M x s) (Int32.toNatClampNeg (M 0 74))) (fun s hs => by rw [ctS_sm, sm_mul]), sm_swap]
    refine sm_c _ (fun t ht => ?_)
    have g := h.H.2.2.2.1 t ht
    have e54 := g.2.2.2.2.2.2.2.1.eq (by omega)
    have l54 := g.2.2.2.2.2.2.2.2.1
    by_cases q : M 55 t = nI w
    · rw [if_pos q, ← sm_1 (fun s => pO M x s) _ _ l54]
      refine sm_c _ (fun s hs => ?_)
      by_cases z : s = Int32.toNatClampNeg (M 54 t)
      · rw [if_pos z, if_pos ⟨by rw [z]; exact e54, q⟩, Int32.one_mul]
      · rw [if_neg z, if_neg (fun y => z (by have := y.1; rw [this, nI_clamp (by omega)])), Int32.zero_mul]
    · rw [if_neg q, sm_c _ (g := fun _ => 0) (fun s hs => by rw [if_neg (fun y => q y.2), Int32.zero_mul]), sm_0]
  rw [e]
end PND
