/-! TOKENS: the tape T of n bytes, both sides of a token -/
abbrev isL (c : Nat) : Prop := 97 ≤ c ∧ c ≤ 122
abbrev isD (c : Nat) : Prop := 48 ≤ c ∧ c ≤ 57
abbrev isB (c : Nat) : Prop := c = 10 ∨ c = 32
def sgs : List Nat := [59, 60, 62, 61, 43, 45, 42, 47, 37, 40, 41, 91, 93, 44]
def tpR (T : Nat → Nat) (n : Nat) (C M : tI) : Prop := C 1 2 = nI n ∧ M 0 2 = nI n ∧ n ≤ 1600 ∧ ∀ j, j < n → C 3 j = nI (T j) ∧ M 1 j = nI (T j) ∧ T j ≤ 255
/-- from p on while L -/
def scR (L : Nat → Prop) (T : Nat → Nat) (n p q : Nat) : Prop := p ≤ q ∧ q ≤ n ∧ (∀ j, p ≤ j → j < q → L (T j)) ∧ (q < n → ¬ L (T q))
theorem scR_ex (L : Nat → Prop) [∀ c, Decidable (L c)] (T : Nat → Nat) (n : Nat) : ∀ k p, p + k = n → ∃ q, scR L T n p q := by
  intro k
  induction k with
  | zero => intro p h; exact ⟨p, Nat.le_refl _, by omega, fun j h1 h2 => by omega, fun h2 => by omega⟩
  | succ k ih =>
    intro p h
    by_cases e : L (T p)
    · obtain ⟨q, h1, h2, h3, h4⟩ := ih (p + 1) (by omega)
      refine ⟨q, by omega, h2, fun j hj1 hj2 => ?_, h4⟩
      by_cases e2 : j = p
      · rw [e2]; exact e
      · exact h3 j (by omega) hj2
    · exact ⟨p, Nat.le_refl _, by omega, fun j h1 h2 => by omega, fun _ => e⟩
theorem scR.ex (L : Nat → Prop) [∀ c, Decidable (L c)] (T : Nat → Nat) {n p : Nat} (h : p ≤ n) : ∃ q, scR L T n p q := scR_ex L T n (n - p) p (by omega)
/-- the letters from p on -/
def wdF (T : Nat → Nat) (p : Nat) : Nat → List Nat
  | 0 => []
  | k + 1 => wdF T p k ++ [T (p + k) - 96]
theorem wdF_l (T : Nat → Nat) (p : Nat) : ∀ k, (wdF T p k).length = k := by
  intro k
  induction k with
  | zero => rfl
  | succ k ih => show (wdF T p k ++ [T (p + k) - 96]).length = k + 1
                 rw [List.length_append, ih]; rfl
theorem wdF_a (T : Nat → Nat) (p : Nat) : ∀ k, (∀ j, p ≤ j → j < p + k → isL (T j)) → ∀ a ∈ wdF T p k, 1 ≤ a ∧ a ≤ 26 := by
  intro k
  induction k with
  | zero => intro _ a ha; cases ha
  | succ k ih =>
    intro h a ha
    rcases List.mem_append.mp ha with q | q
    · exact ih (fun j h1 h2 => h j h1 (by omega)) a q
    · have e : a = T (p + k) - 96 := by simpa using q
      have := h (p + k) (by omega) (by omega)
      omega
def nmF (T : Nat → Nat) (p : Nat) : Nat → Nat
  | 0 => 0
  | k + 1 => 10 * nmF T p k + (T (p + k) - 48)
theorem nmF_b (T : Nat → Nat) (p : Nat) : ∀ k, (∀ j, p ≤ j → j < p + k → isD (T j)) → nmF T p k < 10 ^ k := by
  intro k
  induction k with
  | zero => intro _; exact Nat.one_pos
  | succ k ih =>
    intro h
    have h1 := ih (fun j h1 h2 => h j h1 (by omega))
    have h2 := h (p + k) (by omega) (by omega)
    have e : nmF T p (k + 1) = 10 * nmF T p k + (T (p + k) - 48) := rfl
    have e2 : 10 ^ (k + 1) = 10 ^ k * 10 := Nat.pow_succ ..
    rw [e, e2]; omega
/-! beside a literal -/
theorem ltR {a : Nat} {c : Int32} (b : Nat) (hc : c = nI b) (h : a < b) (hb : b < 2 ^ 31) : nI a < c := hc ▸ nI_lt h hb
theorem nltR {a : Nat} {c : Int32} (b : Nat) (hc : c = nI b) (h : b ≤ a) (hb : a < 2 ^ 31) : ¬ nI a < c := hc ▸ nI_nlt h hb
theorem ltL {b : Nat} {c : Int32} (a : Nat) (hc : c = nI a) (h : a < b) (hb : b < 2 ^ 31) : c < nI b := hc ▸ nI_lt h hb
theorem nltL {b : Nat} {c : Int32} (a : Nat) (hc : c = nI a) (h : b ≤ a) (hb : a < 2 ^ 31) : ¬ c < nI b := hc ▸ nI_nlt h hb
theorem geL {a : Nat} {c : Int32} (b : Nat) (hc : c = nI b) (h : a < b) (hb : b < 2 ^ 31) : ¬ c ≤ nI a := hc ▸ nI_ge h hb
theorem neR {a : Nat} {c : Int32} (b : Nat) (hc : c = nI b) (h : a ≠ b) (ha : a < 2 ^ 31) (hb : b < 2 ^ 31) : ¬ nI a = c := hc ▸ fun q => h ((nI_eq ha hb).mp q)
/-! the class -/
def TF (C C' : tI) : Prop := ∀ a b, (a = 1 → b < 3) → C' a b = C a b
def MF (M M' : tI) : Prop := ∀ a b, (a = 0 → b < 3 ∨ 9 < b) → M' a b = M a b
def JF (J J' : tJ) : Prop := ∀ a b, (a = 0 → b ≠ 7) → J' a b = J a b
theorem TF.rf (C : tI) : TF C C := fun _ _ _ => rfl
theorem MF.rf (M : tI) : MF M M := fun _ _ _ => rfl
theorem JF.rf (J : tJ) : JF J J := fun _ _ _ => rfl
theorem TF.tr {A B C : tI} (h : TF A B) (h2 : TF B C) : TF A C := fun a b q => (h2 a b q).trans (h a b q)
theorem MF.tr {A B C : tI} (h : MF A B) (h2 : MF B C) : MF A C := fun a b q => (h2 a b q).trans (h a b q)
theorem JF.tr {A B C : tJ} (h : JF A B) (h2 : JF B C) : JF A C := fun a b q => (h2 a b q).trans (h a b q)
theorem TF.u {C C' : tI} (h : TF C C') {b : Nat} (hb : 3 ≤ b) (v : Int32) : TF C (am_u2 C' 1 b v) := fun a e q => by
  by_cases h1 : a = 1
  · rw [u2_p (by have := q h1; omega)]; exact h a e q
  · rw [u2_c h1]; exact h a e q
theorem MF.u {C C' : tI} (h : MF C C') {b : Nat} (hb : 3 ≤ b) (hb2 : b ≤ 9) (v : Int32) : MF C (am_u2 C' 0 b v) := fun a e q => by
  by_cases h1 : a = 0
  · rw [u2_p (by have := q h1; omega)]; exact h a e q
  · rw [u2_c h1]; exact h a e q
theorem JF.u {C C' : tJ} (h : JF C C') (v : Int64) : JF C (am_u2 C' 0 7 v) := fun a e q => by
  by_cases h1 : a = 0
  · rw [u2_p (q h1)]; exact h a e q
  · rw [u2_c h1]; exact h a e q
theorem tpR.tf {T : Nat → Nat} {n : Nat} {C M C' M' : tI} (h : tpR T n C M) (hC : TF C C') (hM : MF M M') : tpR T n C' M' := by
  obtain ⟨h1, h2, h3, h4⟩ := h
  refine ⟨?_, ?_, h3, fun j hj => ?_⟩
  · rw [hC 1 2 (fun _ => by omega)]; exact h1
  · rw [hM 0 2 (fun _ => by omega)]; exact h2
  · rw [hC 3 j (fun q => by omega), hM 1 j (fun q => by omega)]; exact h4 j hj
section TOKC
variable {T : Nat → Nat} {n : Nat} {x : Bool} {C M : tI} {J Jc : tJ}
theorem n97 : (97 : Int32) = nI 97 := rfl
theorem c_skip (h : tpR T n C M) (d : Nat) (v2 v3 : Value) : ∀ k p q, p + k = q → scR isB T n p q → am_ev (d + 1) 76 5 [.ref 1, .int (nI p), v2, v3] [] (C, Jc, (tc_R x), tc_S, 289, 11479) = am_ev (d + 1) 76 41 [.ref 1, .int (nI q), v2, v3] [] (C, Jc, (tc_R x), tc_S, 289, 11479) := by
  obtain ⟨h1, h2, h3, h4⟩ := h
  intro k
  induction k with
  | zero =>
    intro p q e hs
    obtain rfl : p = q := by omega
    have hpn := hs.2.1
    rw [b76_5, h1]
    by_cases hp : p < n
    · have hc : Int32.toNatClampNeg (nI p) = p := nI_clamp (by omega)
      have hi : am_in (nI p) 1600 := nI_in (by omega) (by omega)
      have hb := hs.2.2.2 hp
      obtain ⟨t1, t2, t3⟩ := h4 p hp
      have e10 : ¬ nI (T p) = 10 := fun q => hb (Or.inl ((nI_eq (b := 10) (by omega) (by omega)).mp q))
      have e32 : ¬ nI (T p) = 32 := fun q => hb (Or.inr ((nI_eq (b := 32) (by omega) (by omega)).mp q))
      (rw [if_neg (nI_ge hp (by omega)), if_pos hi]; (try simp only [hc]); rw [t1, if_neg e10, if_pos hi, if_neg e32])
    · obtain rfl : p = n := by omega
      rw [if_pos (nI_le (Nat.le_refl _) (by omega))]
  | succ k ih =>
    intro p q e hs
    obtain ⟨hpq, hqn, hin, hout⟩ := hs
    have hp : p < n := by omega
    have hc : Int32.toNatClampNeg (nI p) = p := nI_clamp (by omega)
    have hi : am_in (nI p) 1600 := nI_in (by omega) (by omega)
    have hb := hin p (Nat.le_refl _) (by omega)
    obtain ⟨t1, t2, t3⟩ := h4 p hp
    have h5 := ih (p + 1) q (by omega) ⟨by omega, hqn, fun j a b => hin j (by omega) b, hout⟩
    rw [nI_succ] at h5
    (rw [b76_5, h1, if_neg (nI_ge hp (by omega)), if_pos hi]; (try simp only [hc]); rw [t1])
    by_cases e10 : T p = 10
    · rw [e10, if_pos (show nI 10 = 10 from rfl)]; exact h5
    · have e32 : T p = 32 := by rcases hb with q | q <;> omega
      rw [e32, if_neg (by decide : ¬ nI 32 = 10), if_pos hi, if_pos (show nI 32 = 32 from rfl)]; exact h5
theorem u2_ow {α : Type} (I : Nat → Nat → α) (k j : Nat) (a b : α) : am_u2 (am_u2 I k j a) k j b = am_u2 I k j b := by
  funext p q
  unfold am_u2
  by_cases h : p = k ∧ q = j
  · rw [if_pos h, if_pos h]
  · rw [if_neg h, if_neg h, if_neg h]
theorem u2_id {α : Type} (I : Nat → Nat → α) (k j : Nat) (a : α) (h : I k j = a) : am_u2 I k j a = I := by
  funext p q
  unfold am_u2
  by_cases e : p = k ∧ q = j
  · rw [if_pos e, e.1, e.2, h]
  · rw [if_neg e]
theorem sh5 {k a : Nat} {w : List Nat} (hw : e5 w < 32 ^ k) (hl : w.length = k) (hk : k < 6) : nI (e5 w) ||| (nI a <<< (((5 : Int32) * nI k) &&& 31)) = nI (e5 (w ++ [a])) := by
  have e1 : (5 : Int32) * nI k = nI (5 * k) := nI_mul 5 k
  have e2 : (32 : Nat) ^ k = 2 ^ (5 * k) := by rw [Nat.pow_mul]
  rw [e1, nI_shl _ _ (by omega), nI_or, e5_app, hl, e2, Nat.mul_comm a]
  rw [e2] at hw
  rw [Nat.or_comm, ← Nat.two_pow_add_eq_or_of_lt hw, Nat.add_comm]
theorem c_wordS (h : tpR T n C M) (d : Nat) (v3 : Value) {p k : Nat} (hp : p + k < n) (hL : ∀ j, p ≤ j → j < p + k + 1 → isL (T j)) (hk : k < 6) : am_ev (d + 1) 77 4 [.ref 1, .int (nI (e5 (wdF T p k))), .int (nI k), v3] [] (am_u2 C 1 3 (nI (p + k)), Jc, (tc_R x), tc_S, 289, 11479) = am_ev (d + 1) 77 4 [.ref 1, .int (nI (e5 (wdF T p (k + 1)))), .int (nI (k + 1)), v3] [] (am_u2 C 1 3 (nI (p + (k + 1))), Jc, (tc_R x), tc_S, 289, 11479) := by
  obtain ⟨h1, h2, h3, h4⟩ := h
  obtain ⟨t1, t2, t3⟩ := h4 (p + k) hp
  have hc : Int32.toNatClampNeg (nI (p + k)) = p + k := nI_clamp (by omega)
  have hi : am_in (nI (p + k)) 1600 := nI_in (by omega) (by omega)
  have hl := hL (p + k) (by omega) (by omega)
  have l1 : ¬ nI (T (p + k)) < 97 := nltR (c := 97) 97 rfl (by omega) (by omega)
  have l2 : ¬ 122 < nI (T (p + k)) := nltL (c := 122) 122 rfl (by omega) (by omega)
  have l3 : ¬ nI k = 6 := fun q => absurd ((nI_eq (b := 6) (by omega) (by omega)).mp q) (by omega)
  have e0 : am_u2 C 1 3 (nI (p + k)) 1 3 = nI (p + k) := u2_s
  have e1 : am_u2 C 1 3 (nI (p + k)) 1 2 = nI n := by rw [u2_p (by omega), h1]
  have e2 : am_u2 C 1 3 (nI (p + k)) 3 (p + k) = nI (T (p + k)) := by rw [u2_c (by omega), t1]
  have e5' := e5_lt (wdF T p k) (wdF_a T p k (fun j a b => hL j a (by omega)))
  rw [wdF_l] at e5'
  have e3 : nI (T (p + k)) - 96 = nI (T (p + k) - 96) := nI_sub (b := 96) (by omega) (by omega)
  (rw [b77_4, e0, e1, if_neg (nI_ge hp (by omega)), if_pos hi]; (try simp only [hc]); rw [e2, if_neg l1, if_pos hi, if_neg l2, if_neg l3, if_pos hi, e3, sh5 e5' (wdF_l T p k) hk, u2_ow, nI_1, nI_1])
  rfl
theorem c_word (h : tpR T n C M) (d : Nat) (v3 : Value) {p : Nat} (h3 : C 1 3 = nI p) : ∀ k, k ≤ 6 → p + k ≤ n → (∀ j, p ≤ j → j < p + k → isL (T j)) → am_ev (d + 1) 77 4 [.ref 1, .int 0, .int 0, v3] [] (C, Jc, (tc_R x), tc_S, 289, 11479) = am_ev (d + 1) 77 4 [.ref 1, .int (nI (e5 (wdF T p k))), .int (nI k), v3] [] (am_u2 C 1 3 (nI (p + k)), Jc, (tc_R x), tc_S, 289, 11479) := by
  intro k
  induction k with
  | zero => intro _ _ _
            rw [u2_id C 1 3 (nI (p + 0)) h3]; rfl
  | succ k ih =>
    intro hk hp hL
    rw [ih (by omega) (by omega) (fun j a b => hL j a (by omega))]
    exact c_wordS h d v3 (by omega) (fun j a b => hL j a (by omega)) (by omega)
theorem c_wordE (h : tpR T n C M) (d : Nat) (v3 : Value) (w : Int32) {r k : Nat} (hr : r ≤ n) (he : r < n → ¬ isL (T r)) : am_ev (d + 1) 77 4 [.ref 1, .int w, .int (nI k), v3] [] (am_u2 C 1 3 (nI r), Jc, (tc_R x), tc_S, 289, 11479) = am_ev (d + 1) 77 105 [.ref 1, .int w, .int (nI k), .int 0] [] (am_u2 (am_u2 (am_u2 C 1 3 (nI r)) 1 4 2) 1 5 w, Jc, (tc_R x), tc_S, 289, 11479) := by
  obtain ⟨h1, h2, h3, h4⟩ := h
  have e0 : am_u2 C 1 3 (nI r) 1 3 = nI r := u2_s
  have e1 : am_u2 C 1 3 (nI r) 1 2 = nI n := by rw [u2_p (by omega), h1]
  rw [b77_4, e0, e1]
  by_cases hn : r < n
  · obtain ⟨t1, t2, t3⟩ := h4 r hn
    have hc : Int32.toNatClampNeg (nI r) = r := nI_clamp (by omega)
    have hi : am_in (nI r) 1600 := nI_in (by omega) (by omega)
    have e2 : am_u2 C 1 3 (nI r) 3 r = nI (T r) := by rw [u2_c (by omega), t1]
    (rw [if_neg (nI_ge hn (by omega)), if_pos hi]; (try simp only [hc]); rw [e2])
    by_cases q : T r < 97
    · rw [if_pos (ltR (c := 97) 97 rfl q (by omega))]
    · have q2 : 122 < T r := by have := he hn; unfold isL at this; omega
      rw [if_neg (nltR (c := 97) 97 rfl (by omega) (by omega)), if_pos hi, if_pos (ltL (c := 122) 122 rfl q2 (by omega))]
  · rw [if_pos (nI_le (by omega) (by omega))]
theorem c_wordX (h : tpR T n C M) (d : Nat) (v3 : Value) (w : Int32) {r : Nat} (hr : r < n) (he : isL (T r)) : am_ev (d + 1) 77 4 [.ref 1, .int w, .int (nI 6), v3] [] (am_u2 C 1 3 (nI r), Jc, (tc_R x), tc_S, 289, 11479) = some (none, (am_u2 (am_u2 C 1 3 (nI r)) 1 6 (nI r), Jc, (tc_R x), tc_S, 289, 11479)) := by
  obtain ⟨h1, h2, h3, h4⟩ := h
  obtain ⟨t1, t2, t3⟩ := h4 r hr
  have hc : Int32.toNatClampNeg (nI r) = r := nI_clamp (by omega)
  have hi : am_in (nI r) 1600 := nI_in (by omega) (by omega)
  have e0 : am_u2 C 1 3 (nI r) 1 3 = nI r := u2_s
  have e1 : am_u2 C 1 3 (nI r) 1 2 = nI n := by rw [u2_p (by omega), h1]
  have e2 : am_u2 C 1 3 (nI r) 3 r = nI (T r) := by rw [u2_c (by omega), t1]
  (rw [b77_4, e0, e1, if_neg (nI_ge hr (by omega)), if_pos hi]; (try simp only [hc]); rw [e2, if_neg (nltR (c := 97) 97 rfl (by omega) (by omega)), if_pos hi, if_neg (nltL (c := 122) 122 rfl (by omega) (by omega)), if_pos (show nI 6 = (6 : Int32) from rfl)])
/-! own words -/
theorem c_ownN (hO : rl_Ow C) {w : List Nat} (hw : wdOK w) (d : Nat) (u : Option (Nat ⊕ Int32)) : ∀ m j, j + m ≤ 32 → (∀ i, j ≤ i → i < j + m → ow i ≠ w) → am_ev (d + 1) 77 105 [.ref 1, .int (nI (e5 w)), am_wk u, .int (nI j)] [] (C, Jc, (tc_R x), tc_S, 289, 11479) = am_ev (d + 1) 77 105 [.ref 1, .int (nI (e5 w)), am_wk u, .int (nI (j + m))] [] (C, Jc, (tc_R x), tc_S, 289, 11479) := by
  intro m
  induction m with
  | zero => intro j _ _; rfl
  | succ m ih =>
    intro j hj hn
    have hc : Int32.toNatClampNeg (nI j) = j := nI_clamp (by omega)
    have hi : am_in (nI j) 32 := nI_in (by omega) (by omega)
    have hb := e5_b hw.2.2 hw.2.1
    have ho := ow_ok j (by omega)
    have hb2 := e5_b ho.2.2 ho.2.1
    have hne : ¬ C 2 j = nI (e5 w) := by
      intro q
      rw [hO j (by omega), ← ow_5 j (by omega)] at q
      have q2 := (nI_eq (by omega) (by omega)).mp q
      exact hn j (Nat.le_refl _) (by omega) (e5_inj _ _ ho.2.2 hw.2.2 q2)
    (rw [b77_105, if_neg (geL (c := 32) 32 rfl (by omega) (by omega)), if_pos hi]; (try simp only [hc]); rw [if_neg hne, nI_1, ih (j + 1) (by omega) (fun i a b => hn i (by omega) (by omega)), Nat.add_right_comm j 1 m])
    rfl
theorem c_ownE (d : Nat) (w : Int32) (u : Option (Nat ⊕ Int32)) : am_ev (d + 1) 77 105 [.ref 1, .int w, am_wk u, .int (nI 32)] [] (C, Jc, (tc_R x), tc_S, 289, 11479) = some (none, (C, Jc, (tc_R x), tc_S, 289, 11479)) := by
  rw [b77_105, if_pos (by decide : (32 : Int32) ≤ nI 32)]
theorem c_own0 (hO : rl_Ow C) {w : List Nat} (hw : wdOK w) (ho : ¬ own w) (d : Nat) (u : Option (Nat ⊕ Int32)) : am_ev (d + 1) 77 105 [.ref 1, .int (nI (e5 w)), am_wk u, .int 0] [] (C, Jc, (tc_R x), tc_S, 289, 11479) = some (none, (C, Jc, (tc_R x), tc_S, 289, 11479)) := by
  refine (c_ownN hO hw d u 32 0 (by omega) (fun i _ hi q => ho ⟨i, by omega, q.symm⟩)).trans ?_
  exact c_ownE d _ u
theorem c_own1 (hO : rl_Ow C) {k : Nat} (hk : k < 32) (d : Nat) (u : Option (Nat ⊕ Int32)) : am_ev (d + 1) 77 105 [.ref 1, .int (nI (e5 (ow k))), am_wk u, .int 0] [] (C, Jc, (tc_R x), tc_S, 289, 11479) = some (none, (am_u2 (am_u2 C 1 4 3) 1 5 (nI k), Jc, (tc_R x), tc_S, 289, 11479)) := by
  have hw := ow_wd hk
  have e1 := c_ownN (Jc := Jc) (x := x) hO hw d u k 0 (by omega) (fun i _ hi q => by have := ow_inj i (by omega) k hk q; omega)
  rw [Nat.zero_add] at e1
  refine e1.trans ?_
  have hc : Int32.toNatClampNeg (nI k) = k := nI_clamp (by omega)
  have hi : am_in (nI k) 32 := nI_in (by omega) (by omega)
  have he : C 2 k = nI (e5 (ow k)) := by rw [hO k hk, ow_5 k hk]
  (rw [b77_105, if_neg (geL (c := 32) 32 rfl (by omega) (by omega)), if_pos hi]; (try simp only [hc]); rw [if_pos he, nI_1])
  have hO2 : rl_Ow (am_u2 (am_u2 C 1 4 3) 1 5 (nI k)) := hO.fr (fun b => by rw [u2_c (by omega), u2_c (by omega)])
  have e2 := c_ownN (Jc := Jc) (x := x) hO2 hw d u (32 - (k + 1)) (k + 1) (by omega) (fun i _ hi q => by have := ow_inj i (by omega) k hk q; omega)
  rw [(by omega : k + 1 + (32 - (k + 1)) = 32)] at e2
  exact e2.trans (c_ownE d _ u)
/-! numbers -/
theorem c_numS (h : tpR T n C M) (d : Nat) {p k : Nat} (hp : p + k < n) (hL : ∀ j, p ≤ j → j < p + k + 1 → isD (T j)) (hk : k < 4) : am_ev (d + 1) 78 4 [.ref 1, .int (nI (nmF T p k)), .int (nI k)] [] (am_u2 C 1 3 (nI (p + k)), Jc, (tc_R x), tc_S, 289, 11479) = am_ev (d + 1) 78 4 [.ref 1, .int (nI (nmF T p (k + 1))), .int (nI (k + 1))] [] (am_u2 C 1 3 (nI (p + (k + 1))), Jc, (tc_R x), tc_S, 289, 11479) := by
  obtain ⟨h1, h2, h3, h4⟩ := h
  obtain ⟨t1, t2, t3⟩ := h4 (p + k) hp
  have hc : Int32.toNatClampNeg (nI (p + k)) = p + k := nI_clamp (by omega)
  have hi : am_in (nI (p + k)) 1600 := nI_in (by omega) (by omega)
  have hl := hL (p + k) (by omega) (by omega)
  have l1 : ¬ nI (T (p + k)) < 48 := nltR (c := 48) 48 rfl (by omega) (by omega)
  have l2 : ¬ 57 < nI (T (p + k)) := nltL (c := 57) 57 rfl (by omega) (by omega)
  have l3 : ¬ nI k = 4 := fun q => absurd ((nI_eq (b := 4) (by omega) (by omega)).mp q) (by omega)
  have e0 : am_u2 C 1 3 (nI (p + k)) 1 3 = nI (p + k) := u2_s
  have e1 : am_u2 C 1 3 (nI (p + k)) 1 2 = nI n := by rw [u2_p (by omega), h1]
  have e2 : am_u2 C 1 3 (nI (p + k)) 3 (p + k) = nI (T (p + k)) := by rw [u2_c (by omega), t1]
  have hb := nmF_b T p k (fun j a b => hL j a (by omega))
  have hb2 : 10 ^ k ≤ 10 ^ 3 := Nat.pow_le_pow_right (by omega) (by omega)
  have e3 : (10 : Int32) * nI (nmF T p k) + nI (T (p + k)) - 48 = nI (nmF T p (k + 1)) := by
    have e4 : (10 : Int32) * nI (nmF T p k) = nI (10 * nmF T p k) := nI_mul 10 _
    have e6 : nmF T p (k + 1) = 10 * nmF T p k + T (p + k) - 48 := by
      have : nmF T p (k + 1) = 10 * nmF T p k + (T (p + k) - 48) := rfl
      omega
    rw [e4, nI_add, e6]
    exact nI_sub (b := 48) (by omega) (by omega)
  (rw [b78_4, e0, e1, if_neg (nI_ge hp (by omega)), if_pos hi]; (try simp only [hc]); rw [e2, if_neg l1, if_pos hi, if_neg l2, if_neg l3, if_pos hi, e3, u2_ow, nI_1, nI_1])
  rfl
theorem c_num (h : tpR T n C M) (d : Nat) {p : Nat} (h3 : C 1 3 = nI p) : ∀ k, k ≤ 4 → p + k ≤ n → (∀ j, p ≤ j → j < p + k → isD (T j)) → am_ev (d + 1) 78 4 [.ref 1, .int 0, .int 0] [] (C, Jc, (tc_R x), tc_S, 289, 11479) = am_ev (d + 1) 78 4 [.ref 1, .int (nI (nmF T p k)), .int (nI k)] [] (am_u2 C 1 3 (nI (p + k)), Jc, (tc_R x), tc_S, 289, 11479) := by
  intro k
  induction k with
  | zero => intro _ _ _
            rw [u2_id C 1 3 (nI (p + 0)) h3]; rfl
  | succ k ih =>
    intro hk hp hL
    rw [ih (by omega) (by omega) (fun j a b => hL j a (by omega))]
    exact c_numS h d (by omega) (fun j a b => hL j a (by omega)) (by omega)
theorem c_numE (h : tpR T n C M) (d : Nat) (w : Int32) {r k : Nat} (hr : r ≤ n) (he : r < n → ¬ isD (T r)) : am_ev (d + 1) 78 4 [.ref 1, .int w, .int (nI k)] [] (am_u2 C 1 3 (nI r), Jc, (tc_R x), tc_S, 289, 11479) = some (none, (am_u2 (am_u2 (am_u2 C 1 3 (nI r)) 1 4 4) 1 5 w, Jc, (tc_R x), tc_S, 289, 11479)) := by
  obtain ⟨h1, h2, h3, h4⟩ := h
  have e0 : am_u2 C 1 3 (nI r) 1 3 = nI r := u2_s
  have e1 : am_u2 C 1 3 (nI r) 1 2 = nI n := by rw [u2_p (by omega), h1]
  rw [b78_4, e0, e1]
  by_cases hn : r < n
  · obtain ⟨t1, t2, t3⟩ := h4 r hn
    have hc : Int32.toNatClampNeg (nI r) = r := nI_clamp (by omega)
    have hi : am_in (nI r) 1600 := nI_in (by omega) (by omega)
    have e2 : am_u2 C 1 3 (nI r) 3 r = nI (T r) := by rw [u2_c (by omega), t1]
    (rw [if_neg (nI_ge hn (by omega)), if_pos hi]; (try simp only [hc]); rw [e2])
    by_cases q : T r < 48
    · rw [if_pos (ltR (c := 48) 48 rfl q (by omega))]
    · have q2 : 57 < T r := by have := he hn; unfold isD at this; omega
      rw [if_neg (nltR (c := 48) 48 rfl (by omega) (by omega)), if_pos hi, if_pos (ltL (c := 57) 57 rfl q2 (by omega))]
  · rw [if_pos (nI_le (by omega) (by omega))]
theorem c_numX (h : tpR T n C M) (d : Nat) (w : Int32) {r : Nat} (hr : r < n) (he : isD (T r)) : am_ev (d + 1) 78 4 [.ref 1, .int w, .int (nI 4)] [] (am_u2 C 1 3 (nI r), Jc, (tc_R x), tc_S, 289, 11479) = some (none, (am_u2 (am_u2 C 1 3 (nI r)) 1 6 (nI r), Jc, (tc_R x), tc_S, 289, 11479)) := by
  obtain ⟨h1, h2, h3, h4⟩ := h
  obtain ⟨t1, t2, t3⟩ := h4 r hr
  have hc : Int32.toNatClampNeg (nI r) = r := nI_clamp (by omega)
  have hi : am_in (nI r) 1600 := nI_in (by omega) (by omega)
  have e0 : am_u2 C 1 3 (nI r) 1 3 = nI r := u2_s
  have e1 : am_u2 C 1 3 (nI r) 1 2 = nI n := by rw [u2_p (by omega), h1]
  have e2 : am_u2 C 1 3 (nI r) 3 r = nI (T r) := by rw [u2_c (by omega), t1]
  (rw [b78_4, e0, e1, if_neg (nI_ge hr (by omega)), if_pos hi]; (try simp only [hc]); rw [e2, if_neg (nltR (c := 48) 48 rfl (by omega) (by omega)), if_pos hi, if_neg (nltL (c := 57) 57 rfl (by omega) (by omega)), if_pos (show nI 4 = (4 : Int32) from rfl)])
end TOKC
