/-! NAMES of the plan that is read -/
def jk (q : Nat) : Nat := match q with
  | 0 => 3
  | 1 => 7
  | 2 => 12
  | 3 => 21
  | _ => 23
def Nm (y : Bool) (C M : tI) (J : tJ) : Prop := rl_Pc y C M ∧ rl_Pn y C M J ∧ M 0 51 = nI (xb y)
theorem rl_Pn.k {y : Bool} {C M : tI} {J : tJ} (h : rl_Pn y C M J) {q j : Nat} (hq : q < 5) (hj : j < Int32.toNatClampNeg (M (kc q) (xb y))) : nmR (C (tc_P y + 3 + q) j) (J (jk q) (kx q * xb y + j)) := by
  rcases q5 hq with rfl | rfl | rfl | rfl | rfl
  · exact h.1 j hj
  · exact h.2.1 j hj
  · exact h.2.2.1 j hj
  · exact h.2.2.2.1 j hj
  · exact h.2.2.2.2 j hj
section NAM
variable {T : Nat → Nat} {n lo p q k v : Nat} {w : List Nat} {x y : Bool} {C M : tI} {J Jc : tJ}
theorem Nm.tf {C' M' : tI} {J' : tJ} (h : Nm y C M J) (hC : TF C C') (hM : MF M M') (hJ : JF J J') : Nm y C' M' J' := by
  have hy := tc_P4 y
  obtain ⟨a, b, c⟩ := h
  refine ⟨?_, ?_, ?_⟩
  · unfold rl_Pc at a ⊢
    simp only [fun b => hC (tc_P y + 1) b (by omega), fun b => hM 2 b (by omega), fun b => hM 6 b (by omega), fun b => hM 11 b (by omega), fun b => hM 20 b (by omega), fun b => hM 22 b (by omega), fun b => hM 26 b (by omega), fun b => hM 34 b (by omega), fun b => hM 14 b (by omega), fun b => hM 18 b (by omega)]
    exact a
  · unfold rl_Pn at b ⊢
    simp only [fun b => hM 2 b (by omega), fun b => hM 6 b (by omega), fun b => hM 11 b (by omega), fun b => hM 20 b (by omega), fun b => hM 22 b (by omega), fun b => hC (tc_P y + 3) b (by omega), fun b => hC (tc_P y + 4) b (by omega), fun b => hC (tc_P y + 5) b (by omega), fun b => hC (tc_P y + 6) b (by omega), fun b => hC (tc_P y + 7) b (by omega), fun b => hJ 3 b (by omega), fun b => hJ 7 b (by omega), fun b => hJ 12 b (by omega), fun b => hJ 21 b (by omega), fun b => hJ 23 b (by omega)]
    exact b
  · rw [hM 0 51 (by omega)]; exact c
/-- what a search answers -/
def oI (r : Option Nat) : Int32 := match r with
  | some j => nI j
  | none => -1
theorem c_numOf (hn : bd (C (tc_P y + 1) q) 8) (hq : q < 5) (u : Int32) (d : Nat) : am_G (am_ev (d + 1)) 58 [.ref (tc_P y), .int (nI q), .int u] (C, Jc, (tc_R x), tc_S, 289, 11479) = some (some (.int (oI (fnd (fun j => decide (C (tc_P y + 3 + q) j = u)) (Int32.toNatClampNeg (C (tc_P y + 1) q)) 0))), (C, Jc, (tc_R x), tc_S, 289, 11479)) := by
  have hy := tc_P4 y
  have e := hn.eq (by omega)
  have hl := hn.cl (by omega)
  have ck : Int32.toNatClampNeg (nI q) = q := nI_clamp (by omega)
  have hi9 : am_in (nI q) 9 := nI_in (by omega) (by omega)
  have hi5 : am_in (nI q) 5 := nI_in (by omega) (by omega)
  have hts := ts_nm y q hq
  have hk : (tc_S (tc_P y + 3 + q)).1 = 20 ∧ tc_P y + 3 + q < 289 := ⟨by rw [hts], by omega⟩
  have key := fnd_run (fun l => am_ev (d + 1) 58 2 [.ref (tc_P y), .int (nI q), .int u, .int (nI l)] [] (C, Jc, (tc_R x), tc_S, 289, 11479)) (fun j => decide (C (tc_P y + 3 + q) j = u)) (fun j => some (some (.int (nI j)), (C, Jc, (tc_R x), tc_S, 289, 11479))) (Int32.toNatClampNeg (C (tc_P y + 1) q)) (by
    intro l hl2
    have cb : Int32.toNatClampNeg (nI l) = l := nI_clamp (by omega)
    show am_ev (d + 1) 58 2 [.ref (tc_P y), .int (nI q), .int u, .int (nI l)] [] (C, Jc, (tc_R x), tc_S, 289, 11479) = _
    have gl : ¬ C (tc_P y + 1) q ≤ nI l := by rw [e]; exact nI_ge hl2 (by omega)
    (rw [b58_2, if_pos hi9]; (try simp only [ck]); rw [if_neg gl, if_pos hi5, if_pos hk, hts, if_pos (nI_in (by omega) (by omega))]; (try simp only [cb]))
    by_cases z : C (tc_P y + 3 + q) l = u
    · rw [if_pos z, if_pos (decide_eq_true z)]
    · rw [if_neg z, if_neg (fun y => z (of_decide_eq_true y)), nI_1]) (Int32.toNatClampNeg (C (tc_P y + 1) q)) 0 (by omega)
  rw [b58_0]
  refine key.trans ?_
  cases hf : fnd (fun j => decide (C (tc_P y + 3 + q) j = u)) (Int32.toNatClampNeg (C (tc_P y + 1) q)) 0 with
  | some j => rfl
  | none =>
    show am_ev (d + 1) 58 2 [.ref (tc_P y), .int (nI q), .int u, .int (nI (Int32.toNatClampNeg (C (tc_P y + 1) q)))] [] (C, Jc, (tc_R x), tc_S, 289, 11479) = _
    have gl : C (tc_P y + 1) q ≤ nI (Int32.toNatClampNeg (C (tc_P y + 1) q)) := by rw [← e]; exact Int32.le_refl _
    (rw [b58_2, if_pos hi9]; (try simp only [ck]); rw [if_pos gl]); rfl
theorem m_nameOf (d : Nat) (I : tI) (J : tJ) {b q j : Nat} (hb : b ≤ 1) (hq : q < 5) (hj : j < kx q) : am_G (am_ev (d + 1)) 170 [.ref 0, .int (nI b), .int (nI q), .int (nI j)] (I, J, tm_R, tm_S, 77, 21637) = some (some (.long (J (jk q) (kx q * b + j))), (I, J, tm_R, tm_S, 77, 21637)) := by
  rw [b170_0]
  have e6 : (6 : Int32) * nI b + nI j = nI (6 * b + j) := nI_ix 6 b j
  have e8 : (8 : Int32) * nI b + nI j = nI (8 * b + j) := nI_ix 8 b j
  have e4 : (4 : Int32) * nI b + nI j = nI (4 * b + j) := nI_ix 4 b j
  rcases q5 hq with rfl | rfl | rfl | rfl | rfl
  · have hj : j < 6 := hj
    (rw [if_pos (by decide : nI 0 = (0 : Int32)), e6, if_pos (nI_in (by omega) (by omega))]; (try simp (disch := omega) only [nI_clamp])); rfl
  · have hj : j < 8 := hj
    (rw [if_neg (by decide : ¬ nI 1 = (0 : Int32)), if_pos (by decide : nI 1 = (1 : Int32)), e8, if_pos (nI_in (by omega) (by omega))]; (try simp (disch := omega) only [nI_clamp])); rfl
  · have hj : j < 6 := hj
    (rw [if_neg (by decide : ¬ nI 2 = (0 : Int32)), if_neg (by decide : ¬ nI 2 = (1 : Int32)), if_pos (by decide : nI 2 = (2 : Int32)), e6, if_pos (nI_in (by omega) (by omega))]; (try simp (disch := omega) only [nI_clamp])); rfl
  · have hj : j < 4 := hj
    (rw [if_neg (by decide : ¬ nI 3 = (0 : Int32)), if_neg (by decide : ¬ nI 3 = (1 : Int32)), if_neg (by decide : ¬ nI 3 = (2 : Int32)), if_pos (by decide : nI 3 = (3 : Int32)), e4, if_pos (nI_in (by omega) (by omega))]; (try simp (disch := omega) only [nI_clamp])); rfl
  · have hj : j < 8 := hj
    (rw [if_neg (by decide : ¬ nI 4 = (0 : Int32)), if_neg (by decide : ¬ nI 4 = (1 : Int32)), if_neg (by decide : ¬ nI 4 = (2 : Int32)), if_neg (by decide : ¬ nI 4 = (3 : Int32)), e8, if_pos (nI_in (by omega) (by omega))]; (try simp (disch := omega) only [nI_clamp])); rfl
theorem m_named (hb : M 0 51 = nI (xb y)) (hn : bd (M (kc q) (xb y)) (kx q)) (hq : q < 5) (u : Int64) (d : Nat) : am_G (am_ev (d + 2)) 171 [.ref 0, .int (nI q), .long u] (M, J, tm_R, tm_S, 77, 21637) = some (some (.int (oI (fnd (fun j => decide (J (jk q) (kx q * xb y + j) = u)) (Int32.toNatClampNeg (M (kc q) (xb y))) 0))), (M, J, tm_R, tm_S, 77, 21637)) := by
  have hx := xb1 y
  have h8 := kx8 q
  have e := hn.eq (by omega)
  have hl := hn.cl (by omega)
  have key := fnd_run (fun l => am_ev (d + 2) 171 3 [.ref 0, .int (nI q), .long u, am_un, .int (nI l)] [] (M, J, tm_R, tm_S, 77, 21637)) (fun j => decide (J (jk q) (kx q * xb y + j) = u)) (fun j => some (some (.int (nI j)), (M, J, tm_R, tm_S, 77, 21637))) (Int32.toNatClampNeg (M (kc q) (xb y))) (by
    intro l hl2
    show am_ev (d + 2) 171 3 [.ref 0, .int (nI q), .long u, am_un, .int (nI l)] [] (M, J, tm_R, tm_S, 77, 21637) = _
    have gl : ¬ M (kc q) (xb y) ≤ nI l := by rw [e]; exact nI_ge hl2 (by omega)
    rw [b171_3, hb, m_manyOf _ _ _ hx hq, am_call_s, am_toL, b171_14, if_neg gl, hb, m_nameOf _ _ _ hx hq (by omega), am_call_s, am_toL, b171_28]
    by_cases z : J (jk q) (kx q * xb y + l) = u
    · rw [if_pos ((lg_eq _ _).mpr z), if_pos (decide_eq_true z)]
    · rw [if_neg (fun y => z ((lg_eq _ _).mp y)), if_neg (fun y => z (of_decide_eq_true y)), nI_1]) (Int32.toNatClampNeg (M (kc q) (xb y))) 0 (by omega)
  rw [b171_0]
  refine key.trans ?_
  cases hf : fnd (fun j => decide (J (jk q) (kx q * xb y + j) = u)) (Int32.toNatClampNeg (M (kc q) (xb y))) 0 with
  | some j => rfl
  | none =>
    show am_ev (d + 2) 171 3 [.ref 0, .int (nI q), .long u, am_un, .int (nI (Int32.toNatClampNeg (M (kc q) (xb y))))] [] (M, J, tm_R, tm_S, 77, 21637) = _
    have gl : M (kc q) (xb y) ≤ nI (Int32.toNatClampNeg (M (kc q) (xb y))) := by rw [← e]; exact Int32.le_refl _
    rw [b171_3, hb, m_manyOf _ _ _ hx hq, am_call_s, am_toL, b171_14, if_pos gl]; rfl
/-- a name's number on both sides -/
def nf (y : Bool) (C : tI) (q : Nat) (w : List Nat) : Option Nat := fnd (fun j => decide (C (tc_P y + 3 + q) j = nI (e5 w))) (Int32.toNatClampNeg (C (tc_P y + 1) q)) 0
theorem Nm.c (h : Nm y C M J) (hq : q < 5) (w : List Nat) (d : Nat) : am_G (am_ev (d + 1)) 58 [.ref (tc_P y), .int (nI q), .int (nI (e5 w))] (C, Jc, (tc_R x), tc_S, 289, 11479) = some (some (.int (oI (nf y C q w))), (C, Jc, (tc_R x), tc_S, 289, 11479)) := by
  obtain ⟨a, b⟩ := h.1.k hq
  exact c_numOf (a ▸ b.mono (kx8 q)) hq _ d
theorem Nm.m (h : Nm y C M J) (hq : q < 5) {w : List Nat} (hw : wdOK w) (d : Nat) : am_G (am_ev (d + 2)) 171 [.ref 0, .int (nI q), .long (Int64.ofNat (e8 w))] (M, J, tm_R, tm_S, 77, 21637) = some (some (.int (oI (nf y C q w))), (M, J, tm_R, tm_S, 77, 21637)) := by
  obtain ⟨a, b⟩ := h.1.k hq
  rw [m_named h.2.2 b hq]
  have e : nf y C q w = fnd (fun j => decide (J (jk q) (kx q * xb y + j) = Int64.ofNat (e8 w))) (Int32.toNatClampNeg (M (kc q) (xb y))) 0 := by
    unfold nf
    rw [a]
    refine fnd_congr _ _ (fun j _ hj => ?_)
    obtain ⟨w', h1, h2, h3⟩ := h.2.1.k hq (show j < Int32.toNatClampNeg (M (kc q) (xb y)) by omega)
    rw [h2, h3]
    have b1 := e5_b h1.2.2 h1.2.1
    have b2 := e5_b hw.2.2 hw.2.1
    have b3 := e8_b h1.2.2 h1.2.1
    have b4 := e8_b hw.2.2 hw.2.1
    by_cases z : w' = w
    · rw [z, decide_eq_true rfl, decide_eq_true rfl]
    · rw [decide_eq_false (fun y => z (e5_inj _ _ h1.2.2 hw.2.2 ((nI_eq (by omega) (by omega)).mp y))), decide_eq_false (fun y => z (e8_inj h1.2.2 hw.2.2 (i64_n (by omega) (by omega) y)))]
  rw [e]
theorem Nm.lt (h : Nm y C M J) (hq : q < 5) {w : List Nat} {j : Nat} (hj : nf y C q w = some j) : j < Int32.toNatClampNeg (M (kc q) (xb y)) ∧ j < kx q := by
  obtain ⟨a, b⟩ := h.1.k hq
  have h1 := fnd_some _ _ _ hj
  have h2 := b.cl (by have := kx8 q; omega)
  rw [a] at h1
  omega
theorem oI_n {r : Option Nat} (h : ∀ j, r = some j → j < 100) : oI r = -1 ↔ r = none := by
  cases r with
  | none => exact ⟨fun _ => rfl, fun _ => rfl⟩
  | some j => exact ⟨fun z => absurd z (nI_ne (by have := h j rfl; omega)), fun z => by cases z⟩
theorem Nm.oi (h : Nm y C M J) (hq : q < 5) (w : List Nat) : oI (nf y C q w) = -1 ↔ nf y C q w = none := oI_n (fun j hj => by have := (h.lt hq hj).2; have := kx8 q; omega)
/-- is a name given? -/
def gv (y : Bool) (C : tI) (w : List Nat) : Option Nat := fnd (fun q => decide (¬ nf y C q w = none)) 5 0
theorem Nm.gvC (h : Nm y C M J) (w : List Nat) (d : Nat) : am_G (am_ev (d + 2)) 59 [.ref (tc_P y), .int (nI (e5 w))] (C, Jc, (tc_R x), tc_S, 289, 11479) = some (some (.int (if gv y C w = none then 0 else 1)), (C, Jc, (tc_R x), tc_S, 289, 11479)) := by
  have key := fnd_run (fun l => am_ev (d + 2) 59 2 [.ref (tc_P y), .int (nI (e5 w)), .int (nI l)] [] (C, Jc, (tc_R x), tc_S, 289, 11479)) (fun q => decide (¬ nf y C q w = none)) (fun _ => some (some (.int 1), (C, Jc, (tc_R x), tc_S, 289, 11479))) 5 (by
    intro l hl
    show am_ev (d + 2) 59 2 [.ref (tc_P y), .int (nI (e5 w)), .int (nI l)] [] (C, Jc, (tc_R x), tc_S, 289, 11479) = _
    rw [b59_2, if_neg (nltL (c := 4) 4 rfl (by omega) (by omega)), h.c hl w, am_call_s, am_toL, b59_13]
    by_cases z : nf y C l w = none
    · rw [if_pos ((h.oi hl w).mpr z), if_neg (fun y => (of_decide_eq_true y) z), nI_1]
    · rw [if_neg (fun y => z ((h.oi hl w).mp y)), if_pos (decide_eq_true z)]) 5 0 (by omega)
  rw [b59_0]
  refine key.trans ?_
  unfold gv
  cases hf : fnd (fun q => decide (¬ nf y C q w = none)) 5 0 with
  | some j => rfl
  | none =>
    show am_ev (d + 2) 59 2 [.ref (tc_P y), .int (nI (e5 w)), .int (nI 5)] [] (C, Jc, (tc_R x), tc_S, 289, 11479) = _
    rw [b59_2, if_pos (by decide : (4 : Int32) < nI 5)]; rfl
theorem Nm.gvM (h : Nm y C M J) (g : Gd T n C M J p q k v w) (hk : k = 2) (v2 : Value) (d : Nat) : am_ev (d + 3) 185 39 [.ref 0, .int 0, v2] [] (M, J, tm_R, tm_S, 77, 21637) = match gv y C w with
    | none => am_ev (d + 3) 185 79 [.ref 0, .int (nI 5), v2] [] (M, J, tm_R, tm_S, 77, 21637)
    | some j => am_ev (d + 3) 185 79 [.ref 0, .int (nI (j + 1)), v2] [] (Fmm M 2 p, J, tm_R, tm_S, 77, 21637) := by
  obtain ⟨_, h7, hw, _⟩ := g.t2 hk
  have key := fnd_run (fun l => am_ev (d + 3) 185 39 [.ref 0, .int (nI l), v2] [] (M, J, tm_R, tm_S, 77, 21637)) (fun q => decide (¬ nf y C q w = none)) (fun j => am_ev (d + 3) 185 79 [.ref 0, .int (nI (j + 1)), v2] [] (Fmm M 2 p, J, tm_R, tm_S, 77, 21637)) 5 (by
    intro l hl
    show am_ev (d + 3) 185 39 [.ref 0, .int (nI l), v2] [] (M, J, tm_R, tm_S, 77, 21637) = _
    rw [b185_39, if_neg (nltL (c := 4) 4 rfl (by omega) (by omega)), if_pos g.m8, h7, h.m hl hw, am_call_s, am_toL, b185_60]
    by_cases z : nf y C l w = none
    · rw [if_pos ((h.oi hl w).mpr z), if_neg (fun y => (of_decide_eq_true y) z), b185_73, nI_1]
    · rw [if_neg (fun y => z ((h.oi hl w).mp y)), if_pos (decide_eq_true z)]
      have m1 := g.failM (d + 1) 2
      refine (congrArg (fun z => am_call z _) m1).trans ?_
      rw [am_call_s, am_toN, b185_73, b185_39, Fmm_8, nI_1]
      by_cases z4 : l = 4
      · subst z4
        rw [if_pos (by decide : (4 : Int32) < nI (4 + 1))]
      · rw [if_neg (nltL (c := 4) 4 rfl (by omega) (by omega)), if_neg (by decide)]) 5 0 (by omega)
  refine key.trans ?_
  unfold gv
  cases hf : fnd (fun q => decide (¬ nf y C q w = none)) 5 0 with
  | some j => rfl
  | none =>
    show am_ev (d + 3) 185 39 [.ref 0, .int (nI 5), v2] [] (M, J, tm_R, tm_S, 77, 21637) = _
    rw [b185_39, if_pos (by decide : (4 : Int32) < nI 5)]
/-- a new name -/
theorem Sy.fresh (h : Sy T n lo C M J) (hN : Nm (!x) C M J) (d e : Nat) : ∃ C' M' J' u u', am_G (am_ev (d + 3)) 82 [.ref 1] (C, Jc, (tc_R x), tc_S, 289, 11479) = some (some (.int u), (C', Jc, (tc_R x), tc_S, 289, 11479)) ∧ am_G (am_ev (e + 4)) 185 [.ref 0] (M, J, tm_R, tm_S, 77, 21637) = some (some (.long u'), (M', J', tm_R, tm_S, 77, 21637)) ∧ TF C C' ∧ MF M M' ∧ JF J J' ∧ Sy T n lo C' M' J' ∧ (C' 1 7 = 0 → M 0 8 = 0 ∧ nmR u u') := by
  rcases h.2.2 with ⟨p, q, k, v, w, g, hlo⟩ | g
  · have z8 : M 0 8 ≤ 0 := by rw [g.m8]; decide
    rw [b82_0, b185_0, if_pos z8]
    have bad1 : ∃ C' M' J' u u', am_call (am_G (am_ev (d + 2)) 75 [.ref 1, .int 1, .int (C 1 6)] (C, Jc, (tc_R x), tc_S, 289, 11479)) (fun r M => am_ev (d + 2 + 1) 82 22 [.ref 1, .int (C 1 5)] (r.toList ++ []) M) = some (some (.int u), (C', Jc, (tc_R x), tc_S, 289, 11479)) ∧ am_call (am_G (am_ev (e + 3)) 161 [.ref 0, .int 1, .int (M 0 4)] (M, J, tm_R, tm_S, 77, 21637)) (fun r M => am_ev (e + 3 + 1) 185 37 [.ref 0, am_un, am_un] (r.toList ++ []) M) = some (some (.long u'), (M', J', tm_R, tm_S, 77, 21637)) ∧ TF C C' ∧ MF M M' ∧ JF J J' ∧ Sy T n lo C' M' J' ∧ (C' 1 7 = 0 → M 0 8 = 0 ∧ nmR u u') := by
      have c1 := g.failC (Jc := Jc) (x := x) (d + 1) 1
      have m1 := g.failM (e + 2) 1
      refine ⟨Fc C 1 p, Fmm M 1 p, J, C 1 5, J 0 7, (congrArg (fun z => am_call z _) c1).trans ?_, (congrArg (fun z => am_call z _) m1).trans ?_, Fc_f C 1 p, Fmm_f M 1 p, JF.rf J, g.fsy (by omega) (by omega), fun y => absurd y (by rw [Fc_7]; decide)⟩
      · rw [am_call_s, am_toN, b82_22, b82_52]
      · rw [am_call_s, am_toN, b185_37, b185_39, if_neg (by decide), Fmm_8, if_neg (by decide), b185_79, Fmm_8, if_neg (by decide), b185_95]
    by_cases z : k = 2
    · obtain ⟨t1, t2, t3, t4⟩ := g.t2 z
      rw [if_pos ((g.ke (c := 2) (j := 2) rfl (by omega)).mpr z), if_pos ((g.me (c := 1) (j := 1) rfl (by omega)).mpr (mkk_1.mpr (Or.inl z))), t1, hN.gvC w, am_call_s, am_toL, b82_33, t2, m_own0 _ _ _ t3 t4, am_call_s, am_toL, b185_25, if_pos rfl, b185_37, hN.gvM g z]
      cases hg : gv (!x) C w with
      | none =>
        obtain ⟨C', M', J', a1, a2, a3, a4, a5, a6, _⟩ := g.go (Jc := Jc) (x := x) (by omega) (by omega) d (e + 1)
        refine ⟨C', M', J', nI (e5 w), Int64.ofNat (e8 w), ?_, ?_, a3, a4, a5, a6.mono (by omega), fun _ => ⟨g.m8, w, t3, rfl, rfl⟩⟩
        · rw [if_pos rfl, if_pos rfl, a1, am_call_s, am_toN, b82_52]
        · show am_ev (e + 1 + 3) 185 79 [.ref 0, .int (nI 5), am_un] [] (M, J, tm_R, tm_S, 77, 21637) = _
          rw [b185_79, if_pos g.m8, a2, am_call_s, am_toN, b185_95, t2]
      | some j =>
        have c1 := g.failC (Jc := Jc) (x := x) (d + 1) 2
        refine ⟨Fc C 2 p, Fmm M 2 p, J, nI (e5 w), J 0 7, ?_, ?_, Fc_f C 2 p, Fmm_f M 2 p, JF.rf J, g.fsy (by omega) (by omega), fun y => absurd y (by rw [Fc_7]; decide)⟩
        · rw [if_neg (show ¬ ((some j : Option Nat) = none) from fun z => by cases z), if_neg (by decide : ¬ (1 : Int32) = 0)]
          refine (congrArg (fun z => am_call z _) c1).trans ?_
          rw [am_call_s, am_toN, b82_45, b82_52]
        · show am_ev (e + 1 + 3) 185 79 [.ref 0, .int (nI (j + 1)), am_un] [] (Fmm M 2 p, J, tm_R, tm_S, 77, 21637) = _
          rw [b185_79, Fmm_8, if_neg (by decide), b185_95]
    · rw [if_neg (fun y => z ((g.ke (c := 2) (j := 2) rfl (by omega)).mp y))]
      by_cases z3 : k = 3
      · obtain ⟨t1, t2, t3⟩ := g.t3 z3
        rw [if_pos ((g.me (c := 1) (j := 1) rfl (by omega)).mpr (mkk_1.mpr (Or.inr z3))), t3, m_own1 _ _ _ t1, am_call_s, am_toL, b185_25, if_neg (by decide : ¬ (1 : Int32) = 0)]
        exact bad1
      · rw [if_neg (fun y => by have := mkk_1.mp ((g.me (c := 1) (j := 1) rfl (by omega)).mp y); omega)]
        exact bad1
  · obtain ⟨C', a1, a2, a3, a4⟩ := g.failC (Jc := Jc) (x := x) (d + 1)
    obtain ⟨f, p, f0, f5, hp, h8, _⟩ := id g
    refine ⟨C', M, J, C 1 5, 0, ?_, ?_, a2, MF.rf M, JF.rf J, h.bd a2 a3, fun z => absurd z a4⟩
    · rw [b82_0, g.c4, if_neg (by decide), a1, am_call_s, am_toN, b82_22, b82_52]
    · rw [b185_0, h8, if_neg (nI_nle f0 (by omega))]
/-- a told name, when the token is one -/
theorem Gd.askN (g : Gd T n C M J p q k v w) (hN : Nm (!x) C M J) {kd : Nat} (hkd : kd < 5) (hk : k = 2) (d e : Nat) : ∃ C' M' J' u u', am_G (am_ev (d + 3)) 83 [.ref 1, .int (nI kd)] (C, Jc, (tc_R x), tc_S, 289, 11479) = some (some (.int u), (C', Jc, (tc_R x), tc_S, 289, 11479)) ∧ am_G (am_ev (e + 3)) 186 [.ref 0, .int (nI kd)] (M, J, tm_R, tm_S, 77, 21637) = some (some (.int u'), (M', J', tm_R, tm_S, 77, 21637)) ∧ TF C C' ∧ MF M M' ∧ JF J J' ∧ Sy T n p C' M' J' ∧ u = oI (nf (!x) C kd w) ∧ (nf (!x) C kd w = none → ¬ C' 1 7 = 0) ∧ (M' 0 8 = 0 → u' = oI (nf (!x) C kd w)) ∧ (∀ j, nf (!x) C kd w = some j → C' 1 7 = 0) := by
  obtain ⟨t1, t2, t3, t4⟩ := g.t2 hk
  have e8 : M 0 8 ≤ 0 := by rw [g.m8]; decide
  rw [b83_0, if_pos ((g.ke (c := 2) (j := 2) rfl (by omega)).mpr hk), t1, hN.c hkd w, am_call_s, am_toL, b186_0, if_pos e8, if_pos ((g.me (c := 1) (j := 1) rfl (by omega)).mpr (mkk_1.mpr (Or.inl hk))), t2, m_own0 _ _ _ t3 t4, am_call_s, am_toL, b186_25, if_pos rfl, b186_37, if_pos e8, t2, hN.m hkd t3, am_call_s, am_toL]
  have hoi := hN.oi hkd w
  cases hf : nf (!x) C kd w with
  | none =>
    have c1 := g.failC (Jc := Jc) (x := x) (d + 1) 3
    have m1 := g.failM (e + 1) 3
    refine ⟨Fc C 3 p, Fmm M 3 p, J, -1, 0, ?_, ?_, Fc_f C 3 p, Fmm_f M 3 p, JF.rf J, g.fsy (by omega) (by omega), rfl, fun _ => by rw [Fc_7]; decide, fun y => absurd y (by rw [Fmm_8]; decide), fun j z => (by cases z)⟩
    · refine (b83_31 _ _ _ _ (some (.inr (nI kd))) _ _).trans ?_
      rw [show oI none = -1 from rfl, if_pos rfl]
      refine (congrArg (fun z => am_call z _) c1).trans ?_
      rw [am_call_s, am_toN, b83_46, b83_53]
    · refine (b186_57 _ _ _ (some (.inr (nI kd))) _ _).trans ?_
      rw [if_pos g.m8, show oI none = -1 from rfl, if_pos rfl]
      refine (congrArg (fun z => am_call z _) m1).trans ?_
      rw [am_call_s, am_toN, b186_79, Fmm_8, if_neg (by decide), b186_90, Fmm_8, if_neg (by decide)]
  | some j =>
    rw [hf] at hoi
    have hne : ¬ oI (some j) = -1 := fun z => by cases hoi.mp z
    obtain ⟨C', M', J', a1, a2, a3, a4, a5, a6, _, a7⟩ := g.go (Jc := Jc) (x := x) (by omega) (by omega) d e
    refine ⟨C', M', J', oI (some j), if M' 0 8 ≤ 0 then oI (some j) else 0, ?_, ?_, a3, a4, a5, a6.mono (by omega), rfl, fun z => (by cases z), fun y => by rw [y, if_pos (by decide)], fun _ _ => a7⟩
    · refine (b83_31 _ _ _ _ (some (.inr (nI kd))) _ _).trans ?_
      rw [if_neg hne, a1, am_call_s, am_toN, b83_53]
    · refine (b186_57 _ _ _ (some (.inr (nI kd))) _ _).trans ?_
      rw [if_pos g.m8, if_neg hne, b186_79, if_pos g.m8, a2, am_call_s, am_toN, b186_90, ite_int]
/-- a told name -/
theorem Sy.asked (h : Sy T n lo C M J) (hN : Nm (!x) C M J) {kd : Nat} (hkd : kd < 5) (d e : Nat) : ∃ C' M' J' u u', am_G (am_ev (d + 3)) 83 [.ref 1, .int (nI kd)] (C, Jc, (tc_R x), tc_S, 289, 11479) = some (some (.int u), (C', Jc, (tc_R x), tc_S, 289, 11479)) ∧ am_G (am_ev (e + 3)) 186 [.ref 0, .int (nI kd)] (M, J, tm_R, tm_S, 77, 21637) = some (some (.int u'), (M', J', tm_R, tm_S, 77, 21637)) ∧ TF C C' ∧ MF M M' ∧ JF J J' ∧ Sy T n lo C' M' J' ∧ (C' 1 7 = 0 → M 0 8 = 0 ∧ ∃ j, u = nI j ∧ j < Int32.toNatClampNeg (M (kc kd) (xb (!x))) ∧ j < kx kd ∧ (M' 0 8 = 0 → u' = nI j)) := by
  rcases h.2.2 with ⟨p, q, k, v, w, g, hlo⟩ | g
  · by_cases z : k = 2
    · obtain ⟨C', M', J', u, u', a1, a2, a3, a4, a5, a6, a7, a8, a9, _⟩ := g.askN (Jc := Jc) hN hkd z d e
      refine ⟨C', M', J', u, u', a1, a2, a3, a4, a5, a6.mono (by omega), fun h7 => ⟨g.m8, ?_⟩⟩
      cases hf : nf (!x) C kd w with
      | none => exact absurd h7 (a8 hf)
      | some j =>
        rw [hf] at a7 a9
        have := hN.lt hkd hf
        exact ⟨j, a7, this.1, this.2, a9⟩
    · have e8 : M 0 8 ≤ 0 := by rw [g.m8]; decide
      have c1 := g.failC (Jc := Jc) (x := x) (d + 1) 1
      have m1 := g.failM (e + 1) 1
      have m2 : am_G (am_ev (e + 3)) 186 [.ref 0, .int (nI kd)] (M, J, tm_R, tm_S, 77, 21637) = am_ev (e + 3) 186 37 [.ref 0, .int (nI kd), am_un] [] (Fmm M 1 p, J, tm_R, tm_S, 77, 21637) := by
        rw [b186_0, if_pos e8]
        by_cases z3 : k = 3
        · obtain ⟨t1, t2, t3⟩ := g.t3 z3
          rw [if_pos ((g.me (c := 1) (j := 1) rfl (by omega)).mpr (mkk_1.mpr (Or.inr z3))), t3, m_own1 _ _ _ t1, am_call_s, am_toL, b186_25, if_neg (by decide : ¬ (1 : Int32) = 0)]
          refine (congrArg (fun z => am_call z _) m1).trans ?_
          rw [am_call_s, am_toN]
        · rw [if_neg (fun y => by have := mkk_1.mp ((g.me (c := 1) (j := 1) rfl (by omega)).mp y); omega)]
          refine (congrArg (fun z => am_call z _) m1).trans ?_
          rw [am_call_s, am_toN]
      refine ⟨Fc C 1 p, Fmm M 1 p, J, -1, 0, ?_, m2.trans ?_, Fc_f C 1 p, Fmm_f M 1 p, JF.rf J, g.fsy (by omega) (by omega), fun y => absurd y (by rw [Fc_7]; decide)⟩
      · rw [b83_0, if_neg (fun y => z ((g.ke (c := 2) (j := 2) rfl (by omega)).mp y))]
        refine (congrArg (fun z => am_call z _) c1).trans ?_
        rw [am_call_s, am_toN, b83_17]
      · rw [b186_37, Fmm_8, if_neg (by decide)]
        refine (b186_57 _ _ _ (some (.inr (nI kd))) _ _).trans ?_
        rw [Fmm_8, if_neg (by decide), b186_79, Fmm_8, if_neg (by decide), b186_90, Fmm_8, if_neg (by decide)]
  · obtain ⟨C', a1, a2, a3, a4⟩ := g.failC (Jc := Jc) (x := x) (d + 1)
    obtain ⟨f, p, f0, f5, hp, h8, _⟩ := id g
    refine ⟨C', M, J, -1, 0, ?_, ?_, a2, MF.rf M, JF.rf J, h.bd a2 a3, fun z => absurd z a4⟩
    · rw [b83_0, g.c4, if_neg (by decide), a1, am_call_s, am_toN, b83_17]
    · rw [b186_0, h8, if_neg (nI_nle f0 (by omega))]
end NAM
