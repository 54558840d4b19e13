/-! PRIMITIVES of reading, side by side -/
def Sy (T : Nat → Nat) (n lo : Nat) (C M : tI) (J : tJ) : Prop := tpR T n C M ∧ rl_Ow C ∧ ((∃ p q k v w, Gd T n C M J p q k v w ∧ lo ≤ p) ∨ Bd C M)
section PRM
variable {T : Nat → Nat} {n lo p q k v : Nat} {w : List Nat} {x : Bool} {C M : tI} {J Jc : tJ}
theorem Gd.sy (h : Gd T n C M J p q k v w) : Sy T n p C M J := ⟨h.1.1, h.1.2.2.2.2.2, Or.inl ⟨p, q, k, v, w, h, Nat.le_refl _⟩⟩
theorem Sy.mono (h : Sy T n lo C M J) {l : Nat} (hl : l ≤ lo) : Sy T n l C M J := ⟨h.1, h.2.1, h.2.2.elim (fun ⟨p, q, k, v, w, g, z⟩ => Or.inl ⟨p, q, k, v, w, g, by omega⟩) Or.inr⟩
theorem Bd.m8 (h : Bd C M) : ¬ M 0 8 = 0 := by
  obtain ⟨f, p, h1, h2, h3, h4, _⟩ := h
  rw [h4]; exact nI_ne0 h1 (by omega)
theorem Bd.c4 (h : Bd C M) : C 1 4 = 0 := by
  obtain ⟨f, p, h1, h2, h3, h4, h5, h6, _⟩ := h
  exact h6
theorem Sy.gd (h : Sy T n lo C M J) (h8 : M 0 8 = 0) : ∃ p q k v w, Gd T n C M J p q k v w ∧ lo ≤ p := h.2.2.resolve_right (fun z => z.m8 h8)
theorem Gd.m8 (h : Gd T n C M J p q k v w) : M 0 8 = 0 := h.1.2.2.1
theorem Gd.c7 (h : Gd T n C M J p q k v w) : C 1 7 = 0 := h.1.2.1
theorem Gd.c4 (h : Gd T n C M J p q k v w) : C 1 4 = nI k := h.2.2.1
theorem Gd.k5 (h : Gd T n C M J p q k v w) : k ≤ 5 := h.2.2.2.1
theorem Gd.c6 (h : Gd T n C M J p q k v w) : C 1 6 = nI p := h.2.2.2.2.2.1
theorem Gd.m4 (h : Gd T n C M J p q k v w) : M 0 4 = nI p := h.2.2.2.2.2.2.1
theorem Gd.pn (h : Gd T n C M J p q k v w) : p ≤ 1600 := by
  have h1 := h.2.2.2.2.2.2.2.1
  have h2 := h.2.1
  have h3 := h.1.1.2.2.1
  omega
theorem Gd.m3 (h : Gd T n C M J p q k v w) : M 0 3 = nI (mkk k) := h.2.2.2.2.2.2.2.2.1
theorem Gd.t2 (h : Gd T n C M J p q k v w) (e : k = 2) : C 1 5 = nI (e5 w) ∧ J 0 7 = Int64.ofNat (e8 w) ∧ wdOK w ∧ ¬ own w := h.2.2.2.2.2.2.2.2.2.2.2.1 e
theorem Gd.t3 (h : Gd T n C M J p q k v w) (e : k = 3) : v < 32 ∧ C 1 5 = nI v ∧ J 0 7 = Int64.ofNat (e8 (ow v)) := h.2.2.2.2.2.2.2.2.2.2.2.2.1 e
theorem Gd.t4 (h : Gd T n C M J p q k v w) (e : k = 4) : v ≤ 9999 ∧ C 1 5 = nI v ∧ M 0 6 = nI v := h.2.2.2.2.2.2.2.2.2.2.2.2.2.1 e
theorem Gd.t5 (h : Gd T n C M J p q k v w) (e : k = 5) : v ∈ sgs ∧ C 1 5 = nI v ∧ M 0 6 = nI v := h.2.2.2.2.2.2.2.2.2.2.2.2.2.2.1 e
theorem Gd.t0 (h : Gd T n C M J p q k v w) (e : k = 0) : v ≤ 255 ∧ v ∉ sgs ∧ M 0 6 = nI v := h.2.2.2.2.2.2.2.2.2.2.2.2.2.2.2 e
theorem sgs_b : ∀ c ∈ sgs, c ≤ 93 := by decide
theorem Gd.ke (h : Gd T n C M J p q k v w) {c : Int32} {j : Nat} (hc : c = nI j) (hj : j ≤ 5) : C 1 4 = c ↔ k = j := by
  have := h.k5
  (rw [h.c4]; (try simp only [hc])); exact nI_eq (by omega) (by omega)
theorem mkk_b (k : Nat) : mkk k ≤ 3 := by unfold mkk; split <;> omega
theorem mkk_1 {k : Nat} : mkk k = 1 ↔ k = 2 ∨ k = 3 := by
  rcases k with _ | _ | _ | _ | _ | k <;> simp [mkk]
theorem mkk_2 {k : Nat} : mkk k = 2 ↔ k = 4 := by
  rcases k with _ | _ | _ | _ | _ | k <;> simp [mkk]
theorem mkk_0 {k : Nat} : mkk k = 0 ↔ k = 1 := by
  rcases k with _ | _ | _ | _ | _ | k <;> simp [mkk]
theorem mkk_3 {k : Nat} (h : k ≤ 5) : mkk k = 3 ↔ k = 0 ∨ k = 5 := by
  rcases (by omega : k = 0 ∨ k = 1 ∨ k = 2 ∨ k = 3 ∨ k = 4 ∨ k = 5) with rfl | rfl | rfl | rfl | rfl | rfl <;> simp [mkk]
theorem Gd.me (h : Gd T n C M J p q k v w) {c : Int32} {j : Nat} (hc : c = nI j) (hj : j ≤ 3) : M 0 3 = c ↔ mkk k = j := by
  have := mkk_b k
  (rw [h.m3]; (try simp only [hc])); exact nI_eq (by omega) (by omega)
/-- fail and blame -/
theorem Gd.fl (h : Gd T n C M J p q k v w) {f : Nat} (f0 : 0 < f) (f5 : f ≤ 5) : Bd (am_u2 (am_u2 (am_u2 C 1 7 (nI f)) 1 8 (nI p)) 1 4 0) (am_u2 (am_u2 M 0 8 (nI f)) 0 9 (nI p)) := by
  refine ⟨f, p, f0, f5, h.pn, ?_, u2_s, u2_s, Or.inl ⟨?_, ?_⟩⟩
  · rw [u2_p (by omega), u2_s]
  · rw [u2_p (by omega), u2_p (by omega), u2_s]
  · rw [u2_p (by omega), u2_s]
def Fc (C : tI) (f p : Nat) : tI := am_u2 (am_u2 (am_u2 C 1 7 (nI f)) 1 8 (nI p)) 1 4 0
def Fmm (M : tI) (f p : Nat) : tI := am_u2 (am_u2 M 0 8 (nI f)) 0 9 (nI p)
theorem Fc_f (C : tI) (f p : Nat) : TF C (Fc C f p) := (((TF.rf C).u (by omega) _).u (by omega) _).u (by omega) _
theorem Fmm_f (M : tI) (f p : Nat) : MF M (Fmm M f p) := ((MF.rf M).u (by omega) (by omega) _).u (by omega) (by omega) _
theorem Gd.failC (h : Gd T n C M J p q k v w) (d f : Nat) : am_G (am_ev (d + 1)) 75 [.ref 1, .int (nI f), .int (C 1 6)] (C, Jc, (tc_R x), tc_S, 289, 11479) = some (none, (Fc C f p, Jc, (tc_R x), tc_S, 289, 11479)) := by
  rw [b75_0, if_pos h.c7, h.c6]; rfl
theorem Gd.failM (h : Gd T n C M J p q k v w) (d f : Nat) : am_G (am_ev (d + 1)) 161 [.ref 0, .int (nI f), .int (M 0 4)] (M, J, tm_R, tm_S, 77, 21637) = some (none, (Fmm M f p, J, tm_R, tm_S, 77, 21637)) := by
  rw [m_bl0 _ _ _ h.m8, h.m4]; rfl
theorem Gd.fsy (h : Gd T n C M J p q k v w) {f : Nat} (f0 : 0 < f) (f5 : f ≤ 5) : Sy T n lo (Fc C f p) (Fmm M f p) J := ⟨h.1.1.tf (Fc_f C f p) (Fmm_f M f p), h.1.2.2.2.2.2.fr (fun b => Fc_f C f p 2 b (fun z => by omega)), Or.inr (h.fl f0 f5)⟩
theorem Fmm_8 (M : tI) {f : Nat} (p : Nat) : Fmm M f p 0 8 = nI f := by unfold Fmm; rw [u2_p (by omega), u2_s]
theorem Fc_7 (C : tI) {f : Nat} (p : Nat) : Fc C f p 1 7 = nI f := by unfold Fc; rw [u2_p (by omega), u2_p (by omega), u2_s]
theorem Bd.failC (h : Bd C M) (d : Nat) : ∃ C', am_G (am_ev (d + 1)) 75 [.ref 1, .int 1, .int (C 1 6)] (C, Jc, (tc_R x), tc_S, 289, 11479) = some (none, (C', Jc, (tc_R x), tc_S, 289, 11479)) ∧ TF C C' ∧ Bd C' M ∧ ¬ C' 1 7 = 0 := by
  obtain ⟨f, p, f0, f5, hp, h8, h9, h4, hc⟩ := h
  have hf : ¬ nI f = 0 := nI_ne0 f0 (by omega)
  rcases hc with ⟨c7, c8⟩ | ⟨c7, rfl, c6⟩
  · refine ⟨am_u2 C 1 4 0, ?_, (TF.rf C).u (by omega) _, ⟨f, p, f0, f5, hp, h8, h9, u2_s, Or.inl ⟨?_, ?_⟩⟩, ?_⟩
    · rw [b75_0, c7, if_neg hf]
    · rw [u2_p (by omega)]; exact c7
    · rw [u2_p (by omega)]; exact c8
    · rw [u2_p (by omega), c7]; exact hf
  · refine ⟨Fc C 1 p, ?_, Fc_f C 1 p, ⟨1, p, f0, f5, hp, h8, h9, u2_s, Or.inl ⟨Fc_7 C p, ?_⟩⟩, ?_⟩
    · rw [b75_0, if_pos c7, c6]; rfl
    · unfold Fc; rw [u2_p (by omega), u2_s]
    · rw [Fc_7]; decide
theorem Sy.bd (h : Sy T n lo C M J) {C' : tI} (hT : TF C C') (hb : Bd C' M) : Sy T n lo C' M J := ⟨h.1.tf hT (MF.rf M), h.2.1.fr (fun b => hT 2 b (fun z => by omega)), Or.inr hb⟩
/-- where the token is -/
theorem Gd.at3C (h : Gd T n C M J p q k v w) {j : Nat} (hj : j < 32) (d : Nat) : am_G (am_ev (d + 1)) 79 [.ref 1, .int 3, .int (nI j)] (C, Jc, (tc_R x), tc_S, 289, 11479) = some (some (.int (am_b (k = 3 ∧ v = j))), (C, Jc, (tc_R x), tc_S, 289, 11479)) := by
  rw [b79_0]
  by_cases e : k = 3
  · obtain ⟨a, b, c⟩ := h.t3 e
    rw [if_pos ((h.ke (c := 3) (j := 3) rfl (by omega)).mpr e), b]
    by_cases e2 : v = j
    · rw [if_pos (by rw [e2]), am_b1 ⟨e, e2⟩]
    · rw [if_neg (fun z => e2 ((nI_eq (by omega) (by omega)).mp z)), am_b0 (fun z => e2 z.2)]
  · rw [if_neg (fun z => e ((h.ke (c := 3) (j := 3) rfl (by omega)).mp z)), am_b0 (fun z => e z.1)]
theorem Gd.at3M (h : Gd T n C M J p q k v w) {j : Nat} (hj : j < 32) {c : Int64} (hc : c = Int64.ofNat (ow8.getD j 0)) (d : Nat) : am_G (am_ev (d + 1)) 166 [.ref 0, .long c] (M, J, tm_R, tm_S, 77, 21637) = some (some (.int (am_b (k = 3 ∧ v = j))), (M, J, tm_R, tm_S, 77, 21637)) := by
  rw [b166_0]
  by_cases e : k = 2 ∨ k = 3
  · rw [if_pos ((h.me (c := 1) (j := 1) rfl (by omega)).mpr (mkk_1.mpr e))]
    by_cases e3 : k = 3
    · obtain ⟨a, _, b⟩ := h.t3 e3
      have hw := w_own (ow_wd a) hj hc
      rw [b]
      by_cases e2 : v = j
      · rw [if_pos (hw.mpr (by rw [e2])), am_b1 ⟨e3, e2⟩]
      · rw [if_neg (fun z => e2 (ow_inj v a j hj (hw.mp z))), am_b0 (fun z => e2 z.2)]
    · obtain ⟨_, b, hok, ho⟩ := h.t2 (e.resolve_right e3)
      have hw := w_own hok hj hc
      rw [b, if_neg (fun z => ho ⟨j, hj, hw.mp z⟩), am_b0 (fun z => e3 z.1)]
  · rw [if_neg (fun z => e (mkk_1.mp ((h.me (c := 1) (j := 1) rfl (by omega)).mp z))), am_b0 (fun z => e (Or.inr z.1))]
theorem Gd.at5C (h : Gd T n C M J p q k v w) {j : Nat} (hj : j ∈ sgs) (d : Nat) : am_G (am_ev (d + 1)) 79 [.ref 1, .int 5, .int (nI j)] (C, Jc, (tc_R x), tc_S, 289, 11479) = some (some (.int (am_b (k = 5 ∧ v = j))), (C, Jc, (tc_R x), tc_S, 289, 11479)) := by
  have hb := sgs_b j hj
  rw [b79_0]
  by_cases e : k = 5
  · obtain ⟨a, b, c⟩ := h.t5 e
    have := sgs_b v a
    rw [if_pos ((h.ke (c := 5) (j := 5) rfl (by omega)).mpr e), b]
    by_cases e2 : v = j
    · rw [if_pos (by rw [e2]), am_b1 ⟨e, e2⟩]
    · rw [if_neg (fun z => e2 ((nI_eq (by omega) (by omega)).mp z)), am_b0 (fun z => e2 z.2)]
  · rw [if_neg (fun z => e ((h.ke (c := 5) (j := 5) rfl (by omega)).mp z)), am_b0 (fun z => e z.1)]
theorem Gd.at5M (h : Gd T n C M J p q k v w) {j : Nat} (hj : j ∈ sgs) (d : Nat) : am_G (am_ev (d + 1)) 165 [.ref 0, .int (nI j)] (M, J, tm_R, tm_S, 77, 21637) = some (some (.int (am_b (k = 5 ∧ v = j))), (M, J, tm_R, tm_S, 77, 21637)) := by
  have hb := sgs_b j hj
  have hk := h.k5
  rw [b165_0]
  by_cases e : k = 0 ∨ k = 5
  · rw [if_pos ((h.me (c := 3) (j := 3) rfl (by omega)).mpr ((mkk_3 hk).mpr e))]
    by_cases e5 : k = 5
    · obtain ⟨a, _, b⟩ := h.t5 e5
      have := sgs_b v a
      rw [b]
      by_cases e2 : v = j
      · rw [if_pos (by rw [e2]), am_b1 ⟨e5, e2⟩]
      · rw [if_neg (fun z => e2 ((nI_eq (by omega) (by omega)).mp z)), am_b0 (fun z => e2 z.2)]
    · obtain ⟨a, b, c⟩ := h.t0 (e.resolve_right e5)
      rw [c, if_neg (fun z => b (((nI_eq (a := v) (b := j) (by omega) (by omega)).mp z) ▸ hj)), am_b0 (fun z => e5 z.1)]
  · rw [if_neg (fun z => e ((mkk_3 hk).mp ((h.me (c := 3) (j := 3) rfl (by omega)).mp z))), am_b0 (fun z => e (Or.inr z.1))]
theorem Bd.atC (h : Bd C M) {c : Int32} (hc : ¬ 0 = c) (u : Int32) (d : Nat) : am_G (am_ev (d + 1)) 79 [.ref 1, .int c, .int u] (C, Jc, (tc_R x), tc_S, 289, 11479) = some (some (.int 0), (C, Jc, (tc_R x), tc_S, 289, 11479)) := by
  rw [b79_0, h.c4, if_neg hc]
/-- both go on -/
theorem Gd.go (h : Gd T n C M J p q k v w) (hk : k ≠ 0) (hk1 : k ≠ 1) (d e : Nat) : ∃ C' M' J', am_G (am_ev (d + 2)) 76 [.ref 1] (C, Jc, (tc_R x), tc_S, 289, 11479) = some (none, (C', Jc, (tc_R x), tc_S, 289, 11479)) ∧ am_G (am_ev (e + 2)) 164 [.ref 0] (M, J, tm_R, tm_S, 77, 21637) = some (none, (M', J', tm_R, tm_S, 77, 21637)) ∧ TF C C' ∧ MF M M' ∧ JF J J' ∧ Sy T n (p + 1) C' M' J' ∧ (M' 0 8 = 0 → ∃ p' q' k' v' w', Gd T n C' M' J' p' q' k' v' w' ∧ p < p') ∧ C' 1 7 = 0 := by
  obtain ⟨C', M', J', a1, a2, a3, a4, a5, a6⟩ := (h.pv hk hk1).adv (Jc := Jc) (J := J) (x := x) d e
  have hpq : p < q := h.2.2.2.2.2.2.2.2.2.2.1 hk1
  refine ⟨C', M', J', a1, a2, a3, a4, a5, ⟨h.1.1.tf a3 a4, h.1.2.2.2.2.2.fr (fun b => a3 2 b (fun z => by omega)), ?_⟩, fun h8 => ?_, ?_⟩
  · rcases a6 with ⟨p', q', k', v', w', g, z, _⟩ | g
    · exact Or.inl ⟨p', q', k', v', w', g, by omega⟩
    · exact Or.inr g.1
  · rcases a6 with ⟨p', q', k', v', w', g, g2, _⟩ | g
    · exact ⟨p', q', k', v', w', g, by omega⟩
    · exact absurd h8 g.1.m8
  · rcases a6 with ⟨p', q', k', v', w', g, g2, _⟩ | g
    · exact g.1.2.1
    · exact g.2
theorem Gd.gox (h : Gd T n C M J p q k v w) (hk : k ≠ 0) (hk1 : k ≠ 1) (d e : Nat) : ∃ C' M' J', am_G (am_ev (d + 2)) 76 [.ref 1] (C, Jc, (tc_R x), tc_S, 289, 11479) = some (none, (C', Jc, (tc_R x), tc_S, 289, 11479)) ∧ am_G (am_ev (e + 2)) 164 [.ref 0] (M, J, tm_R, tm_S, 77, 21637) = some (none, (M', J', tm_R, tm_S, 77, 21637)) ∧ TF C C' ∧ MF M M' ∧ JF J J' ∧ ((∃ p' q' k' v' w', Gd T n C' M' J' p' q' k' v' w' ∧ p < p' ∧ q ≤ p' ∧ (k' = 3 → q' = p' + (ow v').length ∧ (0 < p' → ¬ (isL (T (p' - 1)) ∨ isD (T (p' - 1)))))) ∨ (Bd C' M' ∧ C' 1 7 = 0)) := by
  obtain ⟨C', M', J', a1, a2, a3, a4, a5, a6⟩ := (h.pv hk hk1).adv (Jc := Jc) (J := J) (x := x) d e
  have hpq : p < q := h.2.2.2.2.2.2.2.2.2.2.1 hk1
  refine ⟨C', M', J', a1, a2, a3, a4, a5, ?_⟩
  rcases a6 with ⟨p', q', k', v', w', g, z, y⟩ | g
  · exact Or.inl ⟨p', q', k', v', w', g, by omega, z, y⟩
  · exact Or.inr g
/-- take a word of the language -/
theorem Sy.must (h : Sy T n lo C M J) {j : Nat} (hj : j < 32) {c : Int64} (hc : c = Int64.ofNat (ow8.getD j 0)) (d e : Nat) : ∃ C' M' J', am_G (am_ev (d + 3)) 80 [.ref 1, .int 3, .int (nI j)] (C, Jc, (tc_R x), tc_S, 289, 11479) = some (none, (C', Jc, (tc_R x), tc_S, 289, 11479)) ∧ am_G (am_ev (e + 3)) 184 [.ref 0, .long c] (M, J, tm_R, tm_S, 77, 21637) = some (none, (M', J', tm_R, tm_S, 77, 21637)) ∧ TF C C' ∧ MF M M' ∧ JF J J' ∧ Sy T n lo C' M' J' ∧ (C' 1 7 = 0 → M 0 8 = 0) := by
  rcases h.2.2 with ⟨p, q, k, v, w, g, hlo⟩ | g
  · have e8 : M 0 8 ≤ 0 := by rw [g.m8]; decide
    rw [b80_0, g.at3C hj, am_call_s, am_toL, b80_6, b184_0, if_pos e8, g.at3M hj hc, am_call_s, am_toL, b184_13]
    by_cases z : k = 3 ∧ v = j
    · obtain ⟨C', M', J', a1, a2, a3, a4, a5, a6, _⟩ := g.go (Jc := Jc) (x := x) (by omega) (by omega) d e
      rw [am_b1 z, if_neg (by decide : ¬ (1 : Int32) = 0), if_neg (by decide : ¬ (1 : Int32) = 0), a1, am_call_s, am_toN, b80_13, b80_25, b184_25, if_pos g.m8, a2, am_call_s, am_toN, b184_36]
      exact ⟨C', M', J', rfl, rfl, a3, a4, a5, a6.mono (by omega), fun _ => g.m8⟩
    · have c1 := g.failC (Jc := Jc) (x := x) (d + 1) 1
      have m1 := g.failM (e + 1) 1
      rw [am_b0 z, if_pos rfl, if_pos rfl]
      refine ⟨Fc C 1 p, Fmm M 1 p, J, (congrArg (fun z => am_call z _) c1).trans ?_, (congrArg (fun z => am_call z _) m1).trans ?_, Fc_f C 1 p, Fmm_f M 1 p, JF.rf J, g.fsy (by omega) (by omega), fun _ => g.m8⟩
      · rw [am_call_s, am_toN, b80_25]
      · rw [am_call_s, am_toN, b184_25, Fmm_8, if_neg (by decide), b184_36]
  · obtain ⟨C', a1, a2, a3, a4⟩ := g.failC (Jc := Jc) (x := x) (d + 1)
    obtain ⟨f, p, f0, f5, hp, h8, _⟩ := id g
    refine ⟨C', M, J, ?_, ?_, a2, MF.rf M, JF.rf J, h.bd a2 a3, fun z => absurd z a4⟩
    · rw [b80_0, g.atC (c := 3) (by decide), am_call_s, am_toL, b80_6, if_pos rfl, a1, am_call_s, am_toN, b80_25]
    · rw [b184_0, h8, if_neg (nI_nle f0 (by omega))]
/-- take a sign -/
theorem Sy.sign (h : Sy T n lo C M J) {j : Nat} (hj : j ∈ sgs) (d e : Nat) : ∃ C' M' J', am_G (am_ev (d + 3)) 80 [.ref 1, .int 5, .int (nI j)] (C, Jc, (tc_R x), tc_S, 289, 11479) = some (none, (C', Jc, (tc_R x), tc_S, 289, 11479)) ∧ (M 0 8 = 0 → am_G (am_ev (e + 3)) 167 [.ref 0, .int (nI j)] (M, J, tm_R, tm_S, 77, 21637) = some (none, (M', J', tm_R, tm_S, 77, 21637))) ∧ (¬ M 0 8 = 0 → M' = M ∧ J' = J) ∧ TF C C' ∧ MF M M' ∧ JF J J' ∧ Sy T n lo C' M' J' ∧ (C' 1 7 = 0 → M 0 8 = 0) := by
  rcases h.2.2 with ⟨p, q, k, v, w, g, hlo⟩ | g
  · rw [b80_0, g.at5C hj, am_call_s, am_toL, b80_6, b167_0, g.at5M hj, am_call_s, am_toL, b167_5]
    by_cases z : k = 5 ∧ v = j
    · obtain ⟨C', M', J', a1, a2, a3, a4, a5, a6, _⟩ := g.go (Jc := Jc) (x := x) (by omega) (by omega) d e
      rw [am_b1 z, if_neg (by decide : ¬ (1 : Int32) = 0), if_neg (by decide : ¬ (1 : Int32) = 0), a1, am_call_s, am_toN, b80_13, b80_25, b167_17, if_pos g.m8, a2, am_call_s, am_toN, b167_28]
      exact ⟨C', M', J', rfl, fun _ => rfl, fun y => absurd g.m8 y, a3, a4, a5, a6.mono (by omega), fun _ => g.m8⟩
    · have c1 := g.failC (Jc := Jc) (x := x) (d + 1) 1
      have m1 := g.failM (e + 1) 1
      rw [am_b0 z, if_pos rfl, if_pos rfl]
      refine ⟨Fc C 1 p, Fmm M 1 p, J, (congrArg (fun z => am_call z _) c1).trans ?_, fun _ => (congrArg (fun z => am_call z _) m1).trans ?_, fun y => absurd g.m8 y, Fc_f C 1 p, Fmm_f M 1 p, JF.rf J, g.fsy (by omega) (by omega), fun _ => g.m8⟩
      · rw [am_call_s, am_toN, b80_25]
      · rw [am_call_s, am_toN, b167_17, Fmm_8, if_neg (by decide), b167_28]
  · obtain ⟨C', a1, a2, a3, a4⟩ := g.failC (Jc := Jc) (x := x) (d + 1)
    refine ⟨C', M, J, ?_, fun z => absurd z g.m8, fun _ => ⟨rfl, rfl⟩, a2, MF.rf M, JF.rf J, h.bd a2 a3, fun z => absurd z a4⟩
    rw [b80_0, g.atC (c := 5) (by decide), am_call_s, am_toL, b80_6, if_pos rfl, a1, am_call_s, am_toN, b80_25]
/-- take a number -/
theorem Sy.num (h : Sy T n lo C M J) {a b a' : Int32} {l0 hi : Nat} (hb : b = nI hi) (hhi : hi ≤ 9999) (ha : M 0 8 = 0 → a = nI l0 ∧ a' = nI l0 ∧ l0 ≤ 9999) (d e : Nat) : ∃ C' M' J' u u', am_G (am_ev (d + 3)) 81 [.ref 1, .int a, .int b] (C, Jc, (tc_R x), tc_S, 289, 11479) = some (some (.int u), (C', Jc, (tc_R x), tc_S, 289, 11479)) ∧ am_G (am_ev (e + 3)) 172 [.ref 0, .int a', .int b] (M, J, tm_R, tm_S, 77, 21637) = some (some (.int u'), (M', J', tm_R, tm_S, 77, 21637)) ∧ TF C C' ∧ MF M M' ∧ JF J J' ∧ Sy T n lo C' M' J' ∧ (C' 1 7 = 0 → M 0 8 = 0 ∧ ∃ m, u = nI m ∧ u' = nI m ∧ l0 ≤ m ∧ m ≤ hi) := by
  rcases h.2.2 with ⟨p, q, k, v, w, g, hlo⟩ | g
  · obtain ⟨rfl, rfl, hlo⟩ := ha g.m8
    subst hb
    have e8 : M 0 8 ≤ 0 := by rw [g.m8]; decide
    have hk := g.k5
    rw [b81_0, b172_0, if_pos e8]
    by_cases z : k = 4
    · obtain ⟨v1, v2, v3⟩ := g.t4 z
      rw [if_pos ((g.ke (c := 4) (j := 4) rfl (by omega)).mpr z), v2, if_pos ((g.me (c := 2) (j := 2) rfl (by omega)).mpr (mkk_2.mpr z)), b172_26, if_pos g.m8, v3]
      have bad : (v < l0 ∨ hi < v) → ∃ C' M' J' u u', am_call (am_G (am_ev (d + 2)) 75 [.ref 1, .int 4, .int (C 1 6)] (C, Jc, (tc_R x), tc_S, 289, 11479)) (fun r M => am_ev (d + 2 + 1) 81 44 [.ref 1, .int (nI l0), .int (nI hi), .int (nI v)] (r.toList ++ []) M) = some (some (.int u), (C', Jc, (tc_R x), tc_S, 289, 11479)) ∧ am_call (am_G (am_ev (e + 2)) 157 [.int (nI v), .int (nI l0), .int (nI hi)] (M, J, tm_R, tm_S, 77, 21637)) (fun r M => am_ev (e + 2 + 1) 172 42 [.ref 0, .int (nI l0), .int (nI hi), am_un] (r.toList ++ []) M) = some (some (.int u'), (M', J', tm_R, tm_S, 77, 21637)) ∧ TF C C' ∧ MF M M' ∧ JF J J' ∧ Sy T n lo C' M' J' ∧ (C' 1 7 = 0 → M 0 8 = 0 ∧ ∃ m, u = nI m ∧ u' = nI m ∧ l0 ≤ m ∧ m ≤ hi) := by
        intro y
        have c1 := g.failC (Jc := Jc) (x := x) (d + 1) 4
        have m1 := g.failM (e + 1) 4
        have hno : ¬ (nI l0 ≤ nI v ∧ nI v ≤ nI hi) := by
          rw [nI_leI (by omega) (by omega), nI_leI (by omega) (by omega)]; omega
        refine ⟨Fc C 4 p, Fmm M 4 p, J, nI v, nI v, (congrArg (fun z => am_call z _) c1).trans ?_, ?_, Fc_f C 4 p, Fmm_f M 4 p, JF.rf J, g.fsy (by omega) (by omega), fun y => absurd y (by rw [Fc_7]; decide)⟩
        · rw [am_call_s, am_toN, b81_44, b81_51]
        · rw [m_is0 _ _ _ hno, am_call_s, am_toL, b172_42, if_pos rfl]
          refine (congrArg (fun z => am_call z _) m1).trans ?_
          rw [am_call_s, am_toN]
          refine (b172_54 _ _ _ _ (some (.inr (nI hi))) _).trans ?_
          rw [Fmm_8, if_neg (by decide), b172_70]
          have e6 : Fmm M 4 p 0 6 = M 0 6 := by unfold Fmm; rw [u2_p (by omega), u2_p (by omega)]
          rw [e6, v3]
      by_cases y1 : v < l0
      · rw [if_pos (nI_lt y1 (by omega))]
        exact bad (Or.inl y1)
      · rw [if_neg (nI_nlt (by omega) (by omega))]
        by_cases y2 : hi < v
        · rw [if_neg (nI_ge y2 (by omega))]
          exact bad (Or.inr y2)
        · rw [if_pos (nI_le (by omega) (by omega))]
          obtain ⟨C', M', J', a1, a2, a3, a4, a5, a6, _⟩ := g.go (Jc := Jc) (x := x) (by omega) (by omega) (d) (e)
          refine ⟨C', M', J', nI v, nI v, ?_, ?_, a3, a4, a5, a6.mono (by omega), fun _ => ⟨g.m8, v, rfl, rfl, by omega, by omega⟩⟩
          · rw [a1, am_call_s, am_toN, b81_51]
          · rw [m_is1 _ _ _ ⟨nI_le (by omega) (by omega), nI_le (by omega) (by omega)⟩, am_call_s, am_toL, b172_42, if_neg (by decide : ¬ (1 : Int32) = 0)]
            refine (b172_54 _ _ _ _ (some (.inr (nI hi))) _).trans ?_
            rw [if_pos g.m8, a2, am_call_s, am_toN, b172_70, v3]
    · have c1 := g.failC (Jc := Jc) (x := x) (d + 1) 1
      have m1 := g.failM (e + 1) 1
      rw [if_neg (fun y => z ((g.ke (c := 4) (j := 4) rfl (by omega)).mp y)), if_neg (fun y => z (mkk_2.mp ((g.me (c := 2) (j := 2) rfl (by omega)).mp y)))]
      refine ⟨Fc C 1 p, Fmm M 1 p, J, C 1 5, Fmm M 1 p 0 6, (congrArg (fun z => am_call z _) c1).trans ?_, (congrArg (fun z => am_call z _) m1).trans ?_, Fc_f C 1 p, Fmm_f M 1 p, JF.rf J, g.fsy (by omega) (by omega), fun y => absurd y (by rw [Fc_7]; decide)⟩
      · rw [am_call_s, am_toN, b81_22, b81_51]
      · rw [am_call_s, am_toN, b172_26, Fmm_8, if_neg (by decide)]
        refine (b172_54 _ _ _ _ (some (.inr (nI hi))) _).trans ?_
        rw [Fmm_8, if_neg (by decide), b172_70]
  · obtain ⟨C', a1, a2, a3, a4⟩ := g.failC (Jc := Jc) (x := x) (d + 1)
    obtain ⟨f, p, f0, f5, hp, h8, _⟩ := id g
    refine ⟨C', M, J, C 1 5, 0, ?_, ?_, a2, MF.rf M, JF.rf J, h.bd a2 a3, fun z => absurd z a4⟩
    · rw [b81_0, g.c4, if_neg (by decide), a1, am_call_s, am_toN, b81_22, b81_51]
    · rw [b172_0, h8, if_neg (nI_nle f0 (by omega))]
end PRM
