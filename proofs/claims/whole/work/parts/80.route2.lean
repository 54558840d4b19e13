/-! the class goes through all orders -/
section RT2
variable {x : Bool} {C D M : tI} {J Jc : tJ} {sv : Nat → Nat} {n : Nat} {p : List Nat}
def enc (a : Nat) : Int32 := if a = 6 then -1 else nI a
def gM (M : tI) (x : Bool) (a b : Nat) : Nat := Int32.toNatClampNeg (chg M x (enc a) b)
theorem Rl.gB (h : Rl x C M J) {a b : Nat} (ha : a = 6 ∨ a < Int32.toNatClampNeg (M 11 (xb x))) (hb : b < Int32.toNatClampNeg (M 11 (xb x))) : (enc a = -1 ∨ ∃ i, i < Int32.toNatClampNeg (M 11 (xb x)) ∧ enc a = nI i) ∧ chg M x (enc a) b = nI (gM M x a b) ∧ gM M x a b ≤ 99 := by
  have b11 := h.n11.2.cl (by omega)
  have pg := h.P.2.2.2.2.2.2.1.2.2
  unfold gM enc chg
  rcases ha with rfl | ha
  · rw [if_pos rfl, if_pos rfl]
    exact ⟨Or.inl rfl, rfl, by show Int32.toNatClampNeg 0 ≤ 99; decide⟩
  · (rw [if_neg (show ¬ a = 6 by omega), if_neg (nI_ne (by omega))]; (try simp (disch := omega) only [nI_clamp]))
    have z := (pg a b ha hb).1
    exact ⟨Or.inr ⟨a, ha, rfl⟩, z.eq (by omega), z.cl (by omega)⟩
theorem cst_b {g : Nat → Nat → Nat} {N : Nat} (hg : ∀ a b, a = 6 ∨ a < N → b < N → g a b ≤ 99) : ∀ (l : List Nat) (b : Nat), b = 6 ∨ b < N → (∀ z ∈ l, z < N) → cst' g b l ≤ 99 * l.length := by
  intro l
  induction l with
  | nil => intro b _ _; exact Nat.le_refl _
  | cons a l ih =>
    intro b hb hl
    have ha := hl a (List.mem_cons_self ..)
    have h1 := hg b a hb ha
    have h2 := ih a (Or.inr ha) (fun z hz => hl z (List.mem_cons_of_mem _ hz))
    rw [cst_c, List.length_cons]
    omega
theorem drop_g {l : List Nat} {k : Nat} (h : k < l.length) : l.drop k = l.getD k 0 :: l.drop (k + 1) := by
  rw [List.drop_eq_getElem_cons h, List.getD_eq_getElem?_getD, List.getElem?_eq_getElem h]
  rfl
theorem Rl.hoC (h : Rl x D M J) (a : arr D sv p) (hl : p.length = n) (h6 : n ≤ 6) (hn : D 283 1 = nI n) (hs : ∀ k, k < n → sv (p.getD k 0) < Int32.toNatClampNeg (M 11 (xb x))) (last : Int32) (d : Nat) : ∀ m k b acc, k + m = n → (b = 6 ∨ b < Int32.toNatClampNeg (M 11 (xb x))) → acc ≤ 99 * k → am_ev (d + 2) 68 8 [.ref 283, .ref (tc_P x), .int last, .int (nI acc), .int (enc b), .int (nI k)] [] (D, Jc, (tc_R x), tc_S, 289, 11479) = some (some (.int (nI (acc + cst' (gM M x) b ((p.map sv).drop k)))), (D, Jc, (tc_R x), tc_S, 289, 11479)) := by
  have b11 := h.n11.2.cl (by omega)
  intro m
  induction m with
  | zero =>
    intro k b acc hk hb ha
    obtain rfl : k = n := by omega
    rw [List.drop_eq_nil_of_le (by rw [List.length_map]; omega), b68_8, hn, if_pos (Int32.le_refl _)]
    rfl
  | succ m ih =>
    intro k b acc hk hb ha
    have ck : (nI k).toNatClampNeg = k := nI_clamp (by omega)
    have i6 : am_in (nI k) 6 := nI_in (by omega) (by omega)
    have sk := hs k (by omega)
    obtain ⟨g1, g2, g3⟩ := h.gB hb sk
    have ek : enc (sv (p.getD k 0)) = nI (sv (p.getD k 0)) := if_neg (by omega)
    have mk : (p.map sv).drop k = sv (p.getD k 0) :: (p.map sv).drop (k + 1) := by
      rw [drop_g (by rw [List.length_map]; omega)]
      congr 1
      rw [List.getD_eq_getElem?_getD, List.getD_eq_getElem?_getD, List.getElem?_map, List.getElem?_eq_getElem (by omega)]
      rfl
    have st := b68_8 (d + 1) D Jc x x (.int last) (nI acc) (enc b) (nI k)
    rw [hn, if_neg (nI_ge (by omega) (by omega)), if_pos i6] at st
    simp only [ck] at st
    rw [a k (by omega), h.hbC g1 sk, g2, am_call_s, am_toL] at st
    have st2 := st.trans (b68_31 (d + 1) D Jc x x (some (.inr last)) (.int (nI acc)) (.int (enc b)) (nI k) (nI acc) (nI (gM M x b (sv (p.getD k 0)))))
    rw [if_pos i6, nI_add, nI_1] at st2
    simp only [ck] at st2
    rw [a k (by omega), ← ek] at st2
    refine st2.trans ?_
    have r := ih (k + 1) (sv (p.getD k 0)) (acc + gM M x b (sv (p.getD k 0))) (by omega) (Or.inr sk) (by omega)
    refine Eq.trans r ?_
    rw [mk, cst_c, Nat.add_assoc]
end RT2
