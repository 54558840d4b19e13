/-! hours -/
noncomputable def cite {α : Type} (c : Prop) (a b : α) : α := @ite _ c (Classical.propDecidable c) a b
theorem cite_p {α : Type} {c : Prop} {a b : α} (h : c) : cite c a b = a := by unfold cite; rw [if_pos h]
theorem cite_n {α : Type} {c : Prop} {a b : α} (h : ¬ c) : cite c a b = b := by unfold cite; rw [if_neg h]
theorem cite_c {α : Type} {c d : Prop} {a b : α} (h : c ↔ d) : cite c a b = cite d a b := by
  by_cases q : c
  · rw [cite_p q, cite_p (h.mp q)]
  · rw [cite_n q, cite_n (fun w => q (h.mpr w))]
/-- a press whose cure has ended by hour t -/
def cFr (C : tI) (t p : Nat) : Prop := C (270 + p) 1 ≠ -1 ∧ ¬ nI t < C (270 + p) 2
noncomputable def psC (C : tI) (k t : Nat) : tI := fun a b => cite (270 ≤ a ∧ a < 270 + k ∧ b = 1 ∧ cFr C t (a - 270)) (-1) (cite (a = 82 ∧ ∃ p, p < k ∧ cFr C t p ∧ Int32.toNatClampNeg (C (270 + p) 1) = b) 2 (C a b))
noncomputable def pass (C : tI) (k t : Nat) : tI := am_u2 (psC C k t) 41 1 (nI t)
noncomputable def fcn (C : tI) (t : Nat) : Nat → Nat
  | 0 => 0
  | k + 1 => fcn C t k + cite (cFr C t k) 1 0
theorem fcn_s (C : tI) (t k : Nat) : fcn C t (k + 1) = fcn C t k + cite (cFr C t k) 1 0 := rfl
theorem fcn_le (C : tI) (t : Nat) : ∀ k, fcn C t k ≤ k := by
  intro k
  induction k with
  | zero => exact Nat.le_refl _
  | succ k ih =>
    unfold fcn
    by_cases q : cFr C t k
    · rw [cite_p q]; omega
    · rw [cite_n q]; omega
theorem psC_f {C : tI} {k t a b : Nat} (h1 : a ≠ 82) (h2 : 270 ≤ a ∧ a < 270 + k → b ≠ 1) : psC C k t a b = C a b := by
  unfold psC
  rw [cite_n (fun w => h2 ⟨w.1, w.2.1⟩ w.2.2.1), cite_n (fun w => h1 w.1)]
theorem psC_s {C : tI} {k t : Nat} (hk : k < 4) (hf : cFr C t k) : am_u2 (am_u2 (psC C k t) 82 (Int32.toNatClampNeg (C (270 + k) 1)) 2) (270 + k) 1 (-1) = psC C (k + 1) t := by
  funext a b
  by_cases e1 : a = 270 + k ∧ b = 1
  · obtain ⟨rfl, rfl⟩ := e1
    rw [u2_s]
    unfold psC
    rw [cite_p ⟨by omega, by omega, rfl, by rw [Nat.add_sub_cancel_left]; exact hf⟩]
  · rw [fr1 (by omega)]
    by_cases e2 : a = 82 ∧ b = Int32.toNatClampNeg (C (270 + k) 1)
    · obtain ⟨rfl, rfl⟩ := e2
      rw [u2_s]
      unfold psC
      rw [cite_n (fun w => by omega), cite_p ⟨rfl, k, by omega, hf, rfl⟩]
    · rw [fr1 (by omega)]
      unfold psC
      rw [cite_c (c := 270 ≤ a ∧ a < 270 + k ∧ b = 1 ∧ cFr C t (a - 270)) (d := 270 ≤ a ∧ a < 270 + (k + 1) ∧ b = 1 ∧ cFr C t (a - 270)) ⟨fun w => ⟨w.1, by omega, w.2.2⟩, fun w => ⟨w.1, by omega, w.2.2⟩⟩]
      rw [cite_c (c := a = 82 ∧ ∃ p, p < k ∧ cFr C t p ∧ Int32.toNatClampNeg (C (270 + p) 1) = b) (d := a = 82 ∧ ∃ p, p < k + 1 ∧ cFr C t p ∧ Int32.toNatClampNeg (C (270 + p) 1) = b) ⟨fun ⟨w, p, h1, h2⟩ => ⟨w, p, by omega, h2⟩, fun ⟨w, p, h1, h2, h3⟩ => ⟨w, p, by
        by_cases z : p = k
        · subst z; exact absurd ⟨w, h3.symm⟩ e2
        · omega, h2, h3⟩⟩]
theorem psC_z {C : tI} {k t : Nat} (hf : ¬ cFr C t k) : psC C k t = psC C (k + 1) t := by
  funext a b
  unfold psC
  rw [cite_c (c := 270 ≤ a ∧ a < 270 + k ∧ b = 1 ∧ cFr C t (a - 270)) (d := 270 ≤ a ∧ a < 270 + (k + 1) ∧ b = 1 ∧ cFr C t (a - 270)) ⟨fun w => ⟨w.1, by omega, w.2.2⟩, fun w => ⟨w.1, by
    by_cases z : a = 270 + k
    · subst z; have q := w.2.2.2; rw [Nat.add_sub_cancel_left] at q; exact absurd q hf
    · omega, w.2.2⟩⟩]
  rw [cite_c (c := a = 82 ∧ ∃ p, p < k ∧ cFr C t p ∧ Int32.toNatClampNeg (C (270 + p) 1) = b) (d := a = 82 ∧ ∃ p, p < k + 1 ∧ cFr C t p ∧ Int32.toNatClampNeg (C (270 + p) 1) = b) ⟨fun ⟨w, p, h1, h2⟩ => ⟨w, p, by omega, h2⟩, fun ⟨w, p, h1, h2, h3⟩ => ⟨w, p, by
    by_cases z : p = k
    · subst z; exact absurd h2 hf
    · omega, h2, h3⟩⟩]
theorem psC_0 (C : tI) (t : Nat) : psC C 0 t = C := by
  funext a b
  unfold psC
  rw [cite_n (fun w => by omega), cite_n (fun ⟨_, p, hp, _⟩ => by omega)]
theorem i39 : am_in (3 : Int32) 9 := by decide
theorem c39 : (Int32.toNatClampNeg 3) = 3 := rfl
/-- passTo -/
theorem c_pass (d : Nat) (C : tI) (J : tJ) (x : Bool) {n t : Nat} (hn : C (tc_P x + 1) 3 = nI n) (h4 : n ≤ 4) (ht : ∀ p, p < n → C (270 + p) 1 ≠ -1 → bd (C (270 + p) 1) 59) : am_G (am_ev (d + 1)) 34 [.ref 41, .int (nI t)] (C, J, (tc_R x), tc_S, 289, 11479) = some (some (.int (nI (fcn C t n))), (pass C n t, J, (tc_R x), tc_S, 289, 11479)) := by
  have hx := tc_P4 x
  have run : ∀ k, k ≤ n → ∃ v, am_ev (d + 1) 34 4 [.ref 41, .int (nI t), .int (nI 0), .int (nI 0), am_un] [] (C, J, (tc_R x), tc_S, 289, 11479) = am_ev (d + 1) 34 4 [.ref 41, .int (nI t), .int (nI (fcn C t k)), .int (nI k), v] [] (psC C k t, J, (tc_R x), tc_S, 289, 11479) := by
    intro k
    induction k with
    | zero => intro _; rw [psC_0]; exact ⟨am_un, rfl⟩
    | succ k ih =>
      intro hk
      obtain ⟨v, e⟩ := ih (by omega)
      have i4 : am_in (nI k) 4 := nI_in (by omega) (by omega)
      have hkk := tp_k (k := k) (by omega)
      have r1 : psC C k t (270 + k) 1 = C (270 + k) 1 := psC_f (by omega) (by omega)
      have r2 : psC C k t (270 + k) 2 = C (270 + k) 2 := psC_f (by omega) (by omega)
      have r3 : psC C k t (tc_P x + 1) 3 = nI n := by rw [psC_f (by omega) (by omega)]; exact hn
      (rw [e, b34_4, if_pos i39, c39, r3, if_neg (nI_ge (by omega) (by omega)), if_pos i4]; (try simp (disch := omega) only [nI_clamp]); rw [if_pos hkk, r1, r2, nI_1])
      rw [fcn_s]
      by_cases q : C (270 + k) 1 = -1
      · have nf : ¬ cFr C t k := fun w => w.1 q
        rw [if_pos q, cite_n nf, ← psC_z nf, Nat.add_zero]; exact ⟨_, rfl⟩
      · rw [if_neg q, if_pos i4, if_pos hkk]
        by_cases q2 : nI t < C (270 + k) 2
        · have nf : ¬ cFr C t k := fun w => w.2 q2
          rw [if_pos q2, cite_n nf, ← psC_z nf, Nat.add_zero]; exact ⟨_, rfl⟩
        · have yf : cFr C t k := ⟨q, q2⟩
          rw [if_neg q2, if_pos ((ht k (by omega) q).inn (by omega) (by omega)), if_pos i4, if_pos hkk, cite_p yf, psC_s (by omega) yf, nI_1]; exact ⟨_, rfl⟩
  obtain ⟨v, e⟩ := run n (Nat.le_refl _)
  have r3 : psC C n t (tc_P x + 1) 3 = nI n := by rw [psC_f (by omega) (by omega)]; exact hn
  rw [b34_0, (show (0 : Int32) = nI 0 from rfl), e, b34_4, if_pos i39, c39, r3, if_pos (Int32.le_refl _)]
  rfl
theorem pass_f {C : tI} {k t a b : Nat} (h1 : a ≠ 82) (h2 : 270 ≤ a ∧ a < 270 + k → b ≠ 1) (h3 : a = 41 → b ≠ 1) : pass C k t a b = C a b := by
  unfold pass
  rw [fr1 (by omega), psC_f h1 h2]
theorem pass_h {C : tI} {k t : Nat} : pass C k t 41 1 = nI t := u2_s
theorem pass_y {C : tI} {k t p : Nat} (hp : p < k) (hf : cFr C t p) : pass C k t (270 + p) 1 = -1 := by
  unfold pass psC
  rw [fr1 (by omega), cite_p ⟨by omega, by omega, rfl, by rw [Nat.add_sub_cancel_left]; exact hf⟩]
theorem pass_n {C : tI} {k t p : Nat} (hf : ¬ cFr C t p) : pass C k t (270 + p) 1 = C (270 + p) 1 := by
  unfold pass psC
  rw [fr1 (by omega), cite_n (fun w => by have q := w.2.2.2; rw [Nat.add_sub_cancel_left] at q; exact hf q), cite_n (fun w => by omega)]
theorem pass_sy {C : tI} {k t p : Nat} (hp : p < k) (hf : cFr C t p) : pass C k t 82 (Int32.toNatClampNeg (C (270 + p) 1)) = 2 := by
  unfold pass psC
  rw [fr1 (by omega), cite_n (fun w => by omega), cite_p ⟨rfl, p, hp, hf, rfl⟩]
theorem pass_sn {C : tI} {k t b : Nat} (hf : ∀ p, p < k → cFr C t p → Int32.toNatClampNeg (C (270 + p) 1) ≠ b) : pass C k t 82 b = C 82 b := by
  unfold pass psC
  rw [fr1 (by omega), cite_n (fun w => by omega), cite_n (fun ⟨_, p, h1, h2, h3⟩ => hf p h1 h2 h3)]
theorem cFr_pass {C : tI} {k a b p : Nat} (hk : k ≤ 4) (hp : p < k) : cFr (pass C k a) b p ↔ cFr C b p ∧ ¬ cFr C a p := by
  unfold cFr
  rw [pass_f (a := 270 + p) (b := 2) (by omega) (by omega) (by omega)]
  by_cases q : cFr C a p
  · rw [pass_y hp q]
    exact ⟨fun w => absurd rfl w.1, fun w => absurd q w.2⟩
  · rw [pass_n q]
    exact ⟨fun w => ⟨w, q⟩, fun w => w.1⟩
theorem cFr_mono {C : tI} {a b p : Nat} (hab : a ≤ b) (hb : b < 2 ^ 31) (h : cFr C a p) : cFr C b p := by
  refine ⟨h.1, fun w => h.2 ?_⟩
  rw [i_lt] at w ⊢
  rw [nI_toInt hb] at w
  rw [nI_toInt (by omega)]
  omega
theorem pass_pass {C : tI} {k a b : Nat} (hk : k ≤ 4) (hab : a ≤ b) (hb : b < 2 ^ 31) : pass (pass C k a) k b = pass C k b := by
  funext i j
  by_cases e0 : i = 41 ∧ j = 1
  · obtain ⟨rfl, rfl⟩ := e0
    rw [pass_h, pass_h]
  · by_cases e1 : 270 ≤ i ∧ i < 270 + k ∧ j = 1
    · obtain ⟨p, rfl⟩ : ∃ p, i = 270 + p := ⟨i - 270, by omega⟩
      obtain ⟨_, hp, rfl⟩ := e1
      have hp : p < k := by omega
      by_cases q : cFr C b p
      · rw [pass_y hp q]
        by_cases q2 : cFr C a p
        · rw [pass_n (fun w => ((cFr_pass hk hp).mp w).2 q2), pass_y hp q2]
        · rw [pass_y hp ((cFr_pass hk hp).mpr ⟨q, q2⟩)]
      · rw [pass_n q, pass_n (fun w => q ((cFr_pass hk hp).mp w).1), pass_n (fun w => q (cFr_mono hab hb w))]
    · by_cases e2 : i = 82
      · subst e2
        by_cases q : ∃ p, p < k ∧ cFr C b p ∧ Int32.toNatClampNeg (C (270 + p) 1) = j
        · obtain ⟨p, hp, hf, rfl⟩ := q
          rw [pass_sy hp hf]
          by_cases q2 : cFr C a p
          · by_cases q3 : ∃ r, r < k ∧ cFr (pass C k a) b r ∧ Int32.toNatClampNeg (pass C k a (270 + r) 1) = Int32.toNatClampNeg (C (270 + p) 1)
            · obtain ⟨r, hr, hf2, e⟩ := q3
              rw [← e, pass_sy hr hf2]
            · rw [pass_sn (fun r hr hf2 e => q3 ⟨r, hr, hf2, e⟩), pass_sy hp q2]
          · have f2 := (cFr_pass hk hp).mpr ⟨hf, q2⟩
            have e := pass_sy hp f2
            rw [pass_n q2] at e
            exact e
        · rw [pass_sn (fun p hp hf e => q ⟨p, hp, hf, e⟩)]
          rw [pass_sn (fun p hp hf e => by
            have w := (cFr_pass hk hp).mp hf
            rw [pass_n w.2] at e
            exact q ⟨p, hp, w.1, e⟩)]
          exact pass_sn (fun p hp hf e => q ⟨p, hp, cFr_mono hab hb hf, e⟩)
      · rw [pass_f e2 (by omega) (by omega), pass_f e2 (by omega) (by omega), pass_f e2 (by omega) (by omega)]
theorem fcn_pass {C : tI} {n a b : Nat} (hn : n ≤ 4) (hab : a ≤ b) (hb : b < 2 ^ 31) : ∀ k, k ≤ n → fcn C b k = fcn C a k + fcn (pass C n a) b k := by
  intro k
  induction k with
  | zero => intro _; rfl
  | succ k ih =>
    intro hk
    unfold fcn
    rw [ih (by omega), cite_c (cFr_pass (C := C) (a := a) (b := b) hn (show k < n by omega))]
    by_cases q : cFr C a k
    · rw [cite_p q, cite_p (cFr_mono hab hb q), cite_n (fun w => w.2 q)]; omega
    · rw [cite_n q]
      by_cases q2 : cFr C b k
      · rw [cite_p q2, cite_p ⟨q2, q⟩]; omega
      · rw [cite_n q2, cite_n (fun w => q2 w.1)]; omega
/-! the model's hour -/
def mFr (M : tI) (t p : Nat) : Prop := M 65 p ≠ -1 ∧ M 66 p = nI t
noncomputable def hgM (M : tI) (k t : Nat) : tI := fun a b => cite (a = 65 ∧ b < k ∧ mFr M t b) (-1) (cite (a = 55 ∧ ∃ p, p < k ∧ mFr M t p ∧ Int32.toNatClampNeg (M 65 p) = b) 2 (cite (a = 62 ∧ ∃ p, p < k ∧ mFr M t p ∧ Int32.toNatClampNeg (M 65 p) = b) (nI t) (am_u2 M 0 65 (nI t) a b)))
noncomputable def mcn (M : tI) (t : Nat) : Nat → Nat
  | 0 => 0
  | k + 1 => mcn M t k + cite (mFr M t k) 1 0
theorem mcn_s (M : tI) (t k : Nat) : mcn M t (k + 1) = mcn M t k + cite (mFr M t k) 1 0 := rfl
theorem hgM_f {M : tI} {k t a b : Nat} (h1 : a ≠ 55) (h2 : a ≠ 62) (h3 : a = 65 → k ≤ b) (h4 : a = 0 → b ≠ 65) : hgM M k t a b = M a b := by
  unfold hgM
  rw [cite_n (fun w => by omega), cite_n (fun w => h1 w.1), cite_n (fun w => h2 w.1), fr1 (by omega)]
theorem hgM_h {M : tI} {k t : Nat} : hgM M k t 0 65 = nI t := by
  unfold hgM
  rw [cite_n (fun w => by omega), cite_n (fun w => by omega), cite_n (fun w => by omega), u2_s]
theorem hgM_y {M : tI} {k t p : Nat} (hp : p < k) (hf : mFr M t p) : hgM M k t 65 p = -1 := by
  unfold hgM
  rw [cite_p ⟨rfl, hp, hf⟩]
theorem hgM_n {M : tI} {k t p : Nat} (hf : ¬ mFr M t p) : hgM M k t 65 p = M 65 p := by
  unfold hgM
  rw [cite_n (fun w => hf w.2.2), cite_n (fun w => by omega), cite_n (fun w => by omega), fr1 (by omega)]
theorem hgM_sy {M : tI} {k t p : Nat} (hp : p < k) (hf : mFr M t p) : hgM M k t 55 (Int32.toNatClampNeg (M 65 p)) = 2 := by
  unfold hgM
  rw [cite_n (fun w => by omega), cite_p ⟨rfl, p, hp, hf, rfl⟩]
theorem hgM_sn {M : tI} {k t b : Nat} (hf : ∀ p, p < k → mFr M t p → Int32.toNatClampNeg (M 65 p) ≠ b) : hgM M k t 55 b = M 55 b := by
  unfold hgM
  rw [cite_n (fun w => by omega), cite_n (fun ⟨_, p, h1, h2, h3⟩ => hf p h1 h2 h3), cite_n (fun w => by omega), fr1 (by omega)]
theorem hgM_cy {M : tI} {k t p : Nat} (hp : p < k) (hf : mFr M t p) : hgM M k t 62 (Int32.toNatClampNeg (M 65 p)) = nI t := by
  unfold hgM
  rw [cite_n (fun w => by omega), cite_n (fun w => by omega), cite_p ⟨rfl, p, hp, hf, rfl⟩]
theorem hgM_cn {M : tI} {k t b : Nat} (hf : ∀ p, p < k → mFr M t p → Int32.toNatClampNeg (M 65 p) ≠ b) : hgM M k t 62 b = M 62 b := by
  unfold hgM
  rw [cite_n (fun w => by omega), cite_n (fun w => by omega), cite_n (fun ⟨_, p, h1, h2, h3⟩ => hf p h1 h2 h3), fr1 (by omega)]
theorem hgM_0 (M : tI) (t : Nat) : hgM M 0 t = am_u2 M 0 65 (nI t) := by
  funext a b
  unfold hgM
  rw [cite_n (fun w => by omega), cite_n (fun ⟨_, p, hp, _⟩ => by omega), cite_n (fun ⟨_, p, hp, _⟩ => by omega)]
theorem hgM_ex {M : tI} {k t b : Nat} (q : ¬ (mFr M t k ∧ Int32.toNatClampNeg (M 65 k) = b)) : (∃ p, p < k ∧ mFr M t p ∧ Int32.toNatClampNeg (M 65 p) = b) ↔ ∃ p, p < k + 1 ∧ mFr M t p ∧ Int32.toNatClampNeg (M 65 p) = b :=
  ⟨fun ⟨p, h1, h2⟩ => ⟨p, by omega, h2⟩, fun ⟨p, h1, h2, h3⟩ => ⟨p, by
    by_cases z : p = k
    · subst z; exact absurd ⟨h2, h3⟩ q
    · omega, h2, h3⟩⟩
theorem hgM_z {M : tI} {k t : Nat} (hf : ¬ mFr M t k) : hgM M k t = hgM M (k + 1) t := by
  funext a b
  unfold hgM
  rw [cite_c (c := a = 65 ∧ b < k ∧ mFr M t b) (d := a = 65 ∧ b < k + 1 ∧ mFr M t b) ⟨fun w => ⟨w.1, by omega, w.2.2⟩, fun w => ⟨w.1, by
    by_cases z : b = k
    · subst z; exact absurd w.2.2 hf
    · omega, w.2.2⟩⟩]
  rw [cite_c (c := a = 55 ∧ ∃ p, p < k ∧ mFr M t p ∧ Int32.toNatClampNeg (M 65 p) = b) (d := a = 55 ∧ ∃ p, p < k + 1 ∧ mFr M t p ∧ Int32.toNatClampNeg (M 65 p) = b) (and_congr Iff.rfl (hgM_ex (fun w => hf w.1)))]
  rw [cite_c (c := a = 62 ∧ ∃ p, p < k ∧ mFr M t p ∧ Int32.toNatClampNeg (M 65 p) = b) (d := a = 62 ∧ ∃ p, p < k + 1 ∧ mFr M t p ∧ Int32.toNatClampNeg (M 65 p) = b) (and_congr Iff.rfl (hgM_ex (fun w => hf w.1)))]
theorem hgM_s {M : tI} {k t : Nat} (hf : mFr M t k) : am_u2 (am_u2 (am_u2 (hgM M k t) 55 (Int32.toNatClampNeg (M 65 k)) 2) 62 (Int32.toNatClampNeg (M 65 k)) (nI t)) 65 k (-1) = hgM M (k + 1) t := by
  funext a b
  by_cases e1 : a = 65 ∧ b = k
  · obtain ⟨rfl, rfl⟩ := e1
    rw [u2_s, hgM_y (by omega) hf]
  · rw [fr1 (by omega)]
    by_cases e2 : a = 62 ∧ b = Int32.toNatClampNeg (M 65 k)
    · obtain ⟨rfl, rfl⟩ := e2
      rw [u2_s, hgM_cy (by omega) hf]
    · rw [fr1 (by omega)]
      by_cases e3 : a = 55 ∧ b = Int32.toNatClampNeg (M 65 k)
      · obtain ⟨rfl, rfl⟩ := e3
        rw [u2_s, hgM_sy (by omega) hf]
      · rw [fr1 (by omega)]
        unfold hgM
        rw [cite_c (c := a = 65 ∧ b < k ∧ mFr M t b) (d := a = 65 ∧ b < k + 1 ∧ mFr M t b) ⟨fun w => ⟨w.1, by omega, w.2.2⟩, fun w => ⟨w.1, by omega, w.2.2⟩⟩]
        rw [cite_c (c := a = 55 ∧ ∃ p, p < k ∧ mFr M t p ∧ Int32.toNatClampNeg (M 65 p) = b) (d := a = 55 ∧ ∃ p, p < k + 1 ∧ mFr M t p ∧ Int32.toNatClampNeg (M 65 p) = b) ⟨fun w => ⟨w.1, (hgM_ex (fun z => e3 ⟨w.1, z.2.symm⟩)).mp w.2⟩, fun w => ⟨w.1, (hgM_ex (fun z => e3 ⟨w.1, z.2.symm⟩)).mpr w.2⟩⟩]
        rw [cite_c (c := a = 62 ∧ ∃ p, p < k ∧ mFr M t p ∧ Int32.toNatClampNeg (M 65 p) = b) (d := a = 62 ∧ ∃ p, p < k + 1 ∧ mFr M t p ∧ Int32.toNatClampNeg (M 65 p) = b) ⟨fun w => ⟨w.1, (hgM_ex (fun z => e2 ⟨w.1, z.2.symm⟩)).mp w.2⟩, fun w => ⟨w.1, (hgM_ex (fun z => e2 ⟨w.1, z.2.symm⟩)).mpr w.2⟩⟩]
/-- hourGoes -/
theorem m_hour (d : Nat) (M : tI) (J : tJ) {b n t : Nat} (hB : M 0 12 = nI b) (hb : b ≤ 1) (hn : M 20 b = nI n) (h4 : n ≤ 4) (hh : M 0 65 = nI t) (h65 : ∀ p, p < n → M 65 p ≠ -1 → bd (M 65 p) 59) : am_G (am_ev (d + 1)) 237 [.ref 0] (M, J, tm_R, tm_S, 77, 21637) = some (some (.int (nI (mcn M (t + 1) n))), (hgM M n (t + 1), J, tm_R, tm_S, 77, 21637)) := by
  have cb : (nI b).toNatClampNeg = b := nI_clamp (by omega)
  have i2 : am_in (nI b) 2 := nI_in (by omega) (by omega)
  have run : ∀ k, k ≤ n → am_ev (d + 1) 237 14 [.ref 0, .int (nI 0), .int (nI 0)] [] (hgM M 0 (t + 1), J, tm_R, tm_S, 77, 21637) = am_ev (d + 1) 237 14 [.ref 0, .int (nI (mcn M (t + 1) k)), .int (nI k)] [] (hgM M k (t + 1), J, tm_R, tm_S, 77, 21637) := by
    intro k
    induction k with
    | zero => intro _; rfl
    | succ k ih =>
      intro hk
      have e := ih (by omega)
      have i4 : am_in (nI k) 4 := nI_in (by omega) (by omega)
      have r12 : hgM M k (t + 1) 0 12 = nI b := by rw [hgM_f (by omega) (by omega) (by omega) (by omega)]; exact hB
      have r20 : hgM M k (t + 1) 20 b = nI n := by rw [hgM_f (by omega) (by omega) (by omega) (by omega)]; exact hn
      have r65 : hgM M k (t + 1) 65 k = M 65 k := hgM_f (by omega) (by omega) (by omega) (by omega)
      have r66 : hgM M k (t + 1) 66 k = M 66 k := hgM_f (by omega) (by omega) (by omega) (by omega)
      (rw [e, b237_14, r12, if_pos i2]; (try simp only [cb]); rw [r20, if_neg (nI_ge (by omega) (by omega)), if_pos i4]; (try simp (disch := omega) only [nI_clamp]); rw [r65, r66, hgM_h, nI_1])
      rw [mcn_s]
      by_cases q : M 65 k = -1
      · have nf : ¬ mFr M (t + 1) k := fun w => w.1 q
        rw [if_pos q, cite_n nf, ← hgM_z nf]; rfl
      · rw [if_neg q, if_pos i4]
        by_cases q2 : M 66 k = nI (t + 1)
        · have yf : mFr M (t + 1) k := ⟨q, q2⟩
          have i60 := (h65 k (by omega) q).inn (N := 60) (by omega) (by omega)
          rw [if_pos q2, if_pos i4, if_pos i60, if_pos i4, if_pos i60, if_pos i4, cite_p yf, hgM_s yf, nI_1]
        · have nf : ¬ mFr M (t + 1) k := fun w => q2 w.2
          rw [if_neg q2, cite_n nf, ← hgM_z nf]; rfl
  have r12 : hgM M n (t + 1) 0 12 = nI b := by rw [hgM_f (by omega) (by omega) (by omega) (by omega)]; exact hB
  have r20 : hgM M n (t + 1) 20 b = nI n := by rw [hgM_f (by omega) (by omega) (by omega) (by omega)]; exact hn
  (rw [b237_0, hh, nI_1, ← hgM_0, (show (0 : Int32) = nI 0 from rfl), run n (Nat.le_refl _), b237_14, r12, if_pos i2]; (try simp only [cb]); rw [r20, if_pos (Int32.le_refl _)])
