/-! the class's search -/
section RT3
variable {x : Bool} {C D M : tI} {J Jc : tJ} {sv : Nat → Nat} {n : Nat}
def bOK (M : tI) (x : Bool) (sv : Nat → Nat) (n b : Nat) (D : tI) : Option (List Nat) → Prop
  | none => D 283 2 = -1
  | some q => D 283 2 = nI (cst' (gM M x) b (q.map sv)) ∧ ∀ k, k < n → D 284 k = nI (sv (q.getD k 0))
theorem Rl.fnC (h : Rl x C M J) (h6 : n ≤ 6) {b : Nat} (hb : b = 6 ∨ b < Int32.toNatClampNeg (M 11 (xb x))) (s5 : ∀ i, i < n → sv i < Int32.toNatClampNeg (M 11 (xb x))) (hs : ∀ i j, i < n → j < n → (sv i ≤ sv j ↔ i ≤ j)) (d : Nat) : ∀ (rest : List (List Nat)) (p : List Nat) (acc : Option (List Nat)) (D : tI) (t : Nat) (v5 : Value), chn n (p :: rest) = true → (∀ q ∈ p :: rest, q.length = n ∧ ∀ k, k < n → q.getD k 0 < n) → (∀ q, acc = some q → q.length = n ∧ ∀ k, k < n → q.getD k 0 < n) → (∀ a b, a < 283 ∨ 285 < a → D a b = C a b) → D 283 1 = nI n → arr D sv p → bOK M x sv n b D acc → t + rest.length + 1 ≤ 720 → ∃ D', am_ev (d + 3) 67 61 [.ref 283, .ref (tc_P x), .int (enc b), .int 1, .int (nI t), v5] [] (D, Jc, (tc_R x), tc_S, 289, 11479) = some (none, (D', Jc, (tc_R x), tc_S, 289, 11479)) ∧ (∀ a b, a < 283 ∨ 285 < a → D' a b = C a b) ∧ D' 283 1 = nI n ∧ bOK M x sv n b D' (cmb (fun q => cst' (gM M x) b (q.map sv)) acc (fm (fun q => cst' (gM M x) b (q.map sv)) (p :: rest))) := by
  have hx := tc_P4 x
  have b11 := h.n11.2.cl (by omega)
  have s284 : tc_S 284 = (20, 6) := by decide +kernel
  have s285 : tc_S 285 = (20, 6) := by decide +kernel
  have c0 : Int32.toNatClampNeg 0 = 0 := rfl
  have Int32.toNatClampNeg' : (nI n).toNatClampNeg = n := nI_clamp (by omega)
  have gb : ∀ q : List Nat, (q.length = n ∧ ∀ k, k < n → q.getD k 0 < n) → cst' (gM M x) b (q.map sv) ≤ 99 * 6 := by
    intro q hq
    have := cst_b (g := gM M x) (N := Int32.toNatClampNeg (M 11 (xb x))) (fun a c ha hc => (h.gB ha hc).2.2) (q.map sv) b hb (fun z hz => by
      obtain ⟨y, hy, rfl⟩ := List.mem_map.mp hz
      obtain ⟨k, hk, e⟩ := List.getElem_of_mem hy
      have := hq.2 k (by omega)
      rw [List.getD_eq_getElem?_getD, List.getElem?_eq_getElem hk] at this
      have this : q[k] < n := this
      rw [e] at this
      exact s5 y this)
    rw [List.length_map, hq.1] at this
    have := Nat.mul_le_mul_left 99 h6
    omega
  have one : ∀ (p : List Nat) (acc : Option (List Nat)) (D : tI) (t : Nat) (v5 : Value), p.length = n → (∀ k, k < n → p.getD k 0 < n) → (∀ q, acc = some q → q.length = n ∧ ∀ k, k < n → q.getD k 0 < n) → (∀ a b, a < 283 ∨ 285 < a → D a b = C a b) → D 283 1 = nI n → arr D sv p → bOK M x sv n b D acc → t < 720 → ∃ (E : tI) (w5 : Value), am_ev (d + 3) 67 61 [.ref 283, .ref (tc_P x), .int (enc b), .int 1, .int (nI t), v5] [] (D, Jc, (tc_R x), tc_S, 289, 11479) = am_call (am_G (am_ev (d + 2)) 69 [.ref 283] (E, Jc, (tc_R x), tc_S, 289, 11479)) (fun r N => am_ev (d + 3) 67 125 [.ref 283, .ref (tc_P x), .int (enc b), .int 1, .int (nI t), w5] (r.toList ++ []) N) ∧ (∀ a b, a < 283 ∨ 285 < a → E a b = C a b) ∧ E 283 1 = nI n ∧ arr E sv p ∧ bOK M x sv n b E (cmb (fun q => cst' (gM M x) b (q.map sv)) acc (some p)) := by
    intro p acc D t v5 hl hp hacc fr hn ar bo ht
    have hD : Rl x D M J := h.scr (fun a b q => fr a b (by omega)) (fun _ _ _ => rfl) (fun _ _ _ => rfl)
    have ho : am_G (am_ev (d + 2)) 68 [.ref 283, .ref (tc_P x), .int (enc b)] (D, Jc, (tc_R x), tc_S, 289, 11479) = some (some (.int (nI (cst' (gM M x) b (p.map sv)))), (D, Jc, (tc_R x), tc_S, 289, 11479)) := by
      rw [b68_0]
      have r := hD.hoC (Jc := Jc) ar hl h6 hn (fun k hk => s5 _ (hp k hk)) (enc b) d n 0 b 0 (by omega) hb (by omega)
      rw [Nat.zero_add, List.drop_zero] at r
      exact r
    have gp := gb p ⟨hl, hp⟩
    have st : am_ev (d + 3) 67 61 [.ref 283, .ref (tc_P x), .int (enc b), .int 1, .int (nI t), v5] [] (D, Jc, (tc_R x), tc_S, 289, 11479) = am_ev (d + 3) 67 79 [.ref 283, .ref (tc_P x), .int (enc b), .int 1, .int (nI t), v5] [.int (nI (cst' (gM M x) b (p.map sv)))] (D, Jc, (tc_R x), tc_S, 289, 11479) := by
      rw [b67_61, if_neg (show ¬ (720 : Int32) ≤ nI t from nI_ge (b := 720) (by omega) (by omega)), if_neg (by decide : ¬ (1 : Int32) = 0), ho, am_call_s, am_toL]
    have take : ∃ E, am_ev (d + 3) 67 98 [.ref 283, .ref (tc_P x), .int (enc b), .int 1, .int (nI t), .int (nI (cst' (gM M x) b (p.map sv)))] [] (D, Jc, (tc_R x), tc_S, 289, 11479) = am_call (am_G (am_ev (d + 2)) 69 [.ref 283] (E, Jc, (tc_R x), tc_S, 289, 11479)) (fun r N => am_ev (d + 3) 67 125 [.ref 283, .ref (tc_P x), .int (enc b), .int 1, .int (nI t), .int (nI (cst' (gM M x) b (p.map sv)))] (r.toList ++ []) N) ∧ (∀ a b, a < 283 ∨ 285 < a → E a b = C a b) ∧ E 283 1 = nI n ∧ arr E sv p ∧ bOK M x sv n b E (some p) := by
      have s2 := b67_98 (d + 2) D Jc x x (enc b) (.int 1) (nI t) (nI (cst' (gM M x) b (p.map sv)))
      rw [hn, if_pos (by
        refine ⟨⟨by show (tc_S 285).1 = 20; rw [s285], by show 285 < 289; omega⟩, ⟨by show (tc_S 284).1 = 20; rw [s284], by show 284 < 289; omega⟩, by omega, by decide, by decide, nI_pos (by omega), ?_, ?_, by decide⟩
        · rw [s285, Int32.toNatClampNeg', c0]; show 0 + n ≤ 6; omega
        · rw [s284, Int32.toNatClampNeg', c0]; show 0 + n ≤ 6; omega), c0, Int32.toNatClampNeg'] at s2
      refine ⟨_, s2, fun a b q => ?_, ?_, fun k hk => ?_, ?_, fun k hk => ?_⟩
      · unfold am_row
        rw [if_neg (by omega), u2_c (by omega)]; exact fr a b q
      · unfold am_row
        rw [if_neg (by omega), u2_p (by omega)]; exact hn
      · unfold am_row
        rw [if_neg (by omega), u2_c (by omega)]; exact ar k hk
      · unfold am_row
        rw [if_neg (by omega), u2_s]
      · unfold am_row
        rw [if_pos rfl]
        unfold va_cpy
        rw [if_pos ⟨by omega, by omega⟩, Nat.zero_add, Nat.sub_zero, u2_c (by omega)]
        exact ar k (by omega)
    obtain ⟨E, t1, t2, t3, t4, t5⟩ := take
    cases acc with
    | none =>
      refine ⟨E, .int (nI (cst' (gM M x) b (p.map sv))), ?_, t2, t3, t4, t5⟩
      have bo : D 283 2 = -1 := bo
      rw [st, b67_79, if_pos bo]
      exact t1
    | some q =>
      obtain ⟨b1, b2⟩ := bo
      have gq := gb q (hacc q rfl)
      have ne : ¬ D 283 2 = -1 := by rw [b1]; exact nI_ne (by omega)
      by_cases z : cst' (gM M x) b (p.map sv) < cst' (gM M x) b (q.map sv)
      · have e : cmb (fun q => cst' (gM M x) b (q.map sv)) (some q) (some p) = some p := if_pos z
        rw [e]
        refine ⟨E, .int (nI (cst' (gM M x) b (p.map sv))), ?_, t2, t3, t4, t5⟩
        have nl : ¬ D 283 2 ≤ nI (cst' (gM M x) b (p.map sv)) := by rw [b1]; exact nI_ge (by omega) (by omega)
        rw [st, b67_79, if_neg ne, if_neg nl]
        exact t1
      · have e : cmb (fun q => cst' (gM M x) b (q.map sv)) (some q) (some p) = some q := if_neg z
        rw [e]
        have yl : D 283 2 ≤ nI (cst' (gM M x) b (p.map sv)) := by rw [b1]; exact nI_le (by omega) (by omega)
        refine ⟨D, .int (nI (cst' (gM M x) b (p.map sv))), ?_, fr, hn, ar, b1, b2⟩
        rw [st, b67_79, if_neg ne, if_pos yl]
  have keep : ∀ (E D' : tI) (acc : Option (List Nat)), (∀ a b, a ≠ 285 → D' a b = E a b) → bOK M x sv n b E acc → bOK M x sv n b D' acc := by
    intro E D' acc f bo
    cases acc with
    | none => show D' 283 2 = -1; rw [f _ _ (by omega)]; exact bo
    | some q => exact ⟨by rw [f _ _ (by omega)]; exact bo.1, fun k hk => by rw [f _ _ (by omega)]; exact bo.2 k hk⟩
  intro rest
  induction rest with
  | nil =>
    intro p acc D t v5 hc hall hacc fr hn ar bo ht
    obtain ⟨hl, hp⟩ := hall p (List.mem_cons_self ..)
    obtain ⟨E, w5, t1, t2, t3, t4, t5⟩ := one p acc D t v5 hl hp hacc fr hn ar bo (by omega)
    have nx : nxt n p = none := of_decide_eq_true hc
    obtain ⟨D', f1, f2⟩ := c_step d Jc x t4 hl h6 t3 hp (fun i hi => by have := s5 i hi; omega) hs
    rw [nx] at f2
    refine ⟨D', ?_, fun a b q => by rw [f1 a b (by omega)]; exact t2 a b q, by rw [f1 _ _ (by omega)]; exact t3, ?_⟩
    · rw [t1, f2, am_call_s, am_toL, b67_125, b67_61]
      by_cases z : (720 : Int32) ≤ nI t + 1
      · rw [if_pos z]
      · rw [if_neg z, if_pos rfl]
    · exact keep E D' _ f1 t5
  | cons p' rest ih =>
    intro p acc D t v5 hc hall hacc fr hn ar bo ht
    obtain ⟨hl, hp⟩ := hall p (List.mem_cons_self ..)
    have hc : (decide (nxt n p = some p') && chn n (p' :: rest)) = true := hc
    rw [Bool.and_eq_true] at hc
    have nx : nxt n p = some p' := of_decide_eq_true hc.1
    rw [List.length_cons] at ht
    obtain ⟨E, w5, t1, t2, t3, t4, t5⟩ := one p acc D t v5 hl hp hacc fr hn ar bo (by omega)
    obtain ⟨D', f1, f2⟩ := c_step d Jc x t4 hl h6 t3 hp (fun i hi => by have := s5 i hi; omega) hs
    rw [nx] at f2
    obtain ⟨f2, f3⟩ := f2
    obtain ⟨G, u1, u2, u3, u4⟩ := ih p' (cmb (fun q => cst' (gM M x) b (q.map sv)) acc (some p)) D' (t + 1) w5 hc.2 (fun q hq => hall q (List.mem_cons_of_mem _ hq)) (fun q hq => by
      cases acc with
      | none => cases hq; exact ⟨hl, hp⟩
      | some r =>
        have hq : (if cst' (gM M x) b (p.map sv) < cst' (gM M x) b (r.map sv) then some p else some r) = some q := hq
        by_cases z : cst' (gM M x) b (p.map sv) < cst' (gM M x) b (r.map sv)
        · rw [if_pos z] at hq; cases hq; exact ⟨hl, hp⟩
        · rw [if_neg z] at hq; exact hacc q hq) (fun a b q => by rw [f1 a b (by omega)]; exact t2 a b q) (by rw [f1 _ _ (by omega)]; exact t3) f3 (keep E D' _ f1 t5) (by omega)
    refine ⟨G, ?_, u2, u3, ?_⟩
    · rw [t1, f2, am_call_s, am_toL, b67_125, nI_1]
      exact u1
    · rw [fm_c, ← cmb_a]; exact u4
end RT3
