/-! the two machines of laws -/
theorem l_op2_k {k : Nat} {a b v : Int} (e : l_op2 k a b = some v) : 10 ≤ k ∧ k ≤ 21 := by
  by_cases h : 10 ≤ k ∧ k ≤ 21
  · exact h
  · exfalso
    unfold l_op2 at e
    split at e <;> first | omega | cases e
theorem ofInt_nat (n : Nat) : Int32.ofInt (n : Int) = nI n := rfl
theorem i_self (x : Int32) : Int32.ofInt x.toInt = x := Int32.ofInt_toInt x
section LM
variable {x : Bool} {C C0 M : tI} {J J0 Jc : tJ}
def cst (C : tI) (p : Nat) : List Int → Prop
  | [] => True
  | v :: r => C (p + 36) r.length = Int32.ofInt v ∧ cst C p r
def lcR (C0 C : tI) (p : Nat) (S : List Int) : Prop := C (p + 33) 4 = nI S.length ∧ cst C p S ∧ (∀ v ∈ S, lB v) ∧ S.length ≤ 64 ∧ ∀ a b, a ≠ p + 36 → (a = p + 33 → b ≠ 4) → C a b = C0 a b
theorem cst_u (C C' : tI) (p n : Nat) (h : ∀ j, j < n → C' (p + 36) j = C (p + 36) j) : ∀ S : List Int, S.length ≤ n → cst C p S → cst C' p S := by
  intro S
  induction S with
  | nil => intro _ _; trivial
  | cons v r ih =>
    intro hl hc
    have hl' : r.length + 1 ≤ n := hl
    exact ⟨(h _ (by omega)).trans hc.1, ih (by omega) hc.2⟩
theorem lcR.push {S : List Int} (h : lcR C0 C (tc_P x) S) {v : Int} (hv : lB v) (hl : S.length < 64) (d : Nat) : ∃ C', am_G (am_ev (d + 1)) 43 [.ref (tc_P x + 33), .int (Int32.ofInt v)] (C, Jc, (tc_R x), tc_S, 289, 11479) = some (none, (C', Jc, (tc_R x), tc_S, 289, 11479)) ∧ lcR C0 C' (tc_P x) (v :: S) := by
  obtain ⟨h1, h2, h3, h4, h5⟩ := h
  refine ⟨am_u2 (am_u2 C (tc_P x + 36) S.length (Int32.ofInt v)) (tc_P x + 33) 4 (nI (S.length + 1)), ?_, u2_s, ⟨?_, ?_⟩, ?_, hl, ?_⟩
  · (rw [b43_0, h1, if_neg (show ¬ (64 : Int32) ≤ nI S.length from nI_ge (b := 64) hl (by omega)), if_pos (nI_in hl (by omega))]; (try simp (disch := omega) only [nI_clamp]); rw [nI_1])
  · rw [u2_c (by omega), u2_s]
  · refine cst_u C _ _ S.length (fun j hj => ?_) S (Nat.le_refl _) h2
    rw [u2_c (by omega), u2_p (by omega)]
  · intro w hw
    rcases List.mem_cons.mp hw with q | q
    · rw [q]; exact hv
    · exact h3 w q
  · intro a b q1 q2
    rw [fr1 (by omega), u2_c q1]
    exact h5 a b q1 q2
theorem lcR.pop {S : List Int} {v : Int} (h : lcR C0 C (tc_P x) (v :: S)) (d : Nat) : ∃ C', am_G (am_ev (d + 1)) 44 [.ref (tc_P x + 33)] (C, Jc, (tc_R x), tc_S, 289, 11479) = some (some (.int (Int32.ofInt v)), (C', Jc, (tc_R x), tc_S, 289, 11479)) ∧ lcR C0 C' (tc_P x) S ∧ lB v := by
  obtain ⟨h1, h2, h3, h4, h5⟩ := h
  have h4' : S.length + 1 ≤ 64 := h4
  have h1' : C (tc_P x + 33) 4 = nI (S.length + 1) := h1
  refine ⟨am_u2 C (tc_P x + 33) 4 (nI S.length), ?_, ⟨u2_s, ?_, fun w hw => h3 w (List.mem_cons_of_mem _ hw), by omega, fun a b q1 q2 => ?_⟩, h3 v (List.mem_cons_self ..)⟩
  · (rw [b44_0, h1', if_pos (nI_lt0 (by omega) (by omega)), nI_pred, if_pos (nI_in (by omega) (by omega))]; (try simp (disch := omega) only [nI_clamp]); rw [h2.1])
  · exact cst_u C _ _ S.length (fun j hj => u2_c (by omega)) S (Nat.le_refl _) h2.2
  · rw [fr1 (by omega)]; exact h5 a b q1 q2
/-- what a tyre is to a law -/
def evM (M : tI) (t k : Nat) : Int := match k with
  | 1 => (M 58 t).toInt
  | 2 => (M 59 t).toInt
  | 3 => (M 60 t).toInt
  | 4 => (M 54 t).toInt
  | 5 => (M 61 t).toInt
  | _ => 0
theorem Rl.ev (h : Rl x C M J) {t : Nat} (ht : t < Int32.toNatClampNeg (M 0 74)) (h2 : M 55 t = 2) : l_env (evM M t) ∧ C (150 + 2 * t) 6 ≠ -1 ∧ C (150 + 2 * t) 6 - C (150 + 2 * t) 1 = M 61 t := by
  have g := h.H.2.2.2.1 t ht
  obtain ⟨g1, g2, g3, g4, g5, g6, g7, g8, g9, g10, g11, g12, g13, g14, g15, g16⟩ := g
  have bT : ∀ {v : Int32} {n : Nat}, bd v n → n ≤ 9999 → -1 ≤ v.toInt ∧ v.toInt ≤ 99999 := by
    rintro v n ⟨k, hk, rfl⟩ hn
    rw [nI_toInt (by omega)]; omega
  rcases g16 with r | r
  · exfalso
    rcases r.2.2.2 with z | z <;> rw [h2] at z <;> exact absurd z (by decide)
  · obtain ⟨s, hs, es⟩ := r.1
    obtain ⟨b, hb, eb⟩ := g11
    have lt := r.2.1
    (rw [es, eb] at lt; (try simp (disch := omega) only [nI_clamp] at lt))
    have e61 : M 61 t = nI (s - b) := by rw [r.2.2.2.1, es, eb, nI_sub (by omega) lt]
    refine ⟨fun k => ?_, by rw [es]; exact nI_ne (by omega), by rw [r.2.2.2.1, g3]⟩
    unfold evM
    split
    · exact bT g13 (by omega)
    · exact bT r.2.2.2.2.2.1 (by omega)
    · exact bT r.2.2.2.2.2.2.1 (by omega)
    · exact bT g8 (by omega)
    · rw [e61]; exact bT (bd_nI (n := 9999) (by omega)) (by omega)
    · omega
theorem lE {env : Nat → Int} (h : l_env env) (k : Nat) : lB (env k) := by have := h k; unfold lB; omega
end LM
