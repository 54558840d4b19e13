/-! LAWS: sums and products (printed by genlaw4.py) -/
def N6 (k v : Nat) : Prop := ¬ (k = 5 ∧ v = 42) ∧ ¬ (k = 5 ∧ v = 47) ∧ ¬ (k = 5 ∧ v = 37)
def N5 (k v : Nat) : Prop := ¬ (k = 5 ∧ v = 43) ∧ ¬ (k = 5 ∧ v = 45) ∧ ¬ (k = 5 ∧ v = 42) ∧ ¬ (k = 5 ∧ v = 47) ∧ ¬ (k = 5 ∧ v = 37)
def N7 (_ _ : Nat) : Prop := True
/-- a reader of arithmetic: method mi, depth dp, ranks from r on, stack s, signs N that can't follow -/
def ArP (T : Nat → Nat) (n : Nat) (x : Bool) (Jc : tJ) (o h mi dp r s mb : Nat) (N : Nat → Nat → Prop) : Prop := ∀ (fk ph bs la lb m p q k v : Nat) (w : List Nat) (C M : tI) (J : tJ) (d e : Nat), Gd T n C M J p q k v w → Fr x o fk ph bs la lb m C M → M 0 61 = 0 → la ≤ p → lb ≤ p → 4 * m ≤ p + 24 * o + mb → (¬ (fk = 1 ∨ fk = 5) ∨ M 41 o = 0 ∨ (¬ (k = 3 ∧ v = 23) ∧ ¬ (k = 5 ∧ v = 91) ∧ ¬ (k = 3 ∧ v = 24))) → fk ≤ 5 → ph ≤ 1 → Stq M bs m r → Out e x C M J Jc (am_G (am_ev (d + 4 * h + dp)) mi [.ref 1, .int (nI o)] (C, Jc, (tc_R x), tc_S, 289, 11479)) (Lp e M J) (Ar T n x o la lb m p ph r s N C M J)
section LAR
theorem tp0 {x : Bool} {o la lb m c : Nat} {C M C' M' : tI} {A B : List (Nat × Int)} (t : Tk x o la lb m C M C' M' A B [c]) : M' 44 m = nI c := t.2.2.2.2.2.2.2 0 Nat.zero_lt_one
variable {T : Nat → Nat} {n p q k v o h la lb m fk ph op bs r : Nat} {w : List Nat} {x : Bool} {C M C' M' C2 M2 : tI} {J J' J2 Jc : tJ} {A B A2 B2 : List (Nat × Int)} {R R2 Q : List Nat} {e : Nat}
theorem prd_loop (F : ArP T n x Jc o h 103 5 7 (3 * h + 1) 28 N7) (ho : o + h = 8) (b : Fr x o fk ph bs la lb m C M) (hs : Stq M bs m 6) (hph : ph ≤ 1) (hla : la ≤ p) (hlb : lb ≤ p) (hm : 4 * m ≤ p + 24 * o + 24) (hfk : fk ≤ 5) (d e : Nat) : ∀ fu (C' M' : tI) (J' : tJ) (A B : List (Nat × Int)) (R : List Nat) (p' q' k' v' : Nat) (w' : List Nat) (c : Nat) (v3 : Value), 1600 - p' ≤ fu → Acc T n x o la lb m C M J C' M' J' A B R p' q' k' v' w' 1 ph → p + A.length ≤ p' → p + B.length + R.length ≤ p' → p < p' → c ≤ p' → Pn 6 R → R.length ≤ 1 → EqV (3 * h + 2) A (B ++ opz R) → N7 k' v' → M' 41 o = 0 → Out e x C M J Jc (am_ev (d + 4 * h + 6) 102 7 [.ref 1, .int (nI o), .int (nI c), v3] [] (C', Jc, (tc_R x), tc_S, 289, 11479)) (Lp e M' J') (Ar T n x o la lb m p ph 6 (3 * h + 2) N6 C M J) := by
  intro fu
  induction fu with
  | zero =>
    intro C' M' J' A B R p' q' k' v' w' c v3 hfu a lA lB lp hc hR hR2 hE hN h41
    have hk : k' = 1 := by
      rcases Nat.decEq k' 1 with z | z
      · have := a.1.pq z; omega
      · exact z
    subst hk
    have z : ¬ (1 = 5 ∧ (v' = 42 ∨ v' = 47 ∨ v' = 37)) := by omega
    refine ⟨C', M', J', ?_, Or.inl ⟨rfl, A, B, R, p', q', 1, v', w', a, lA, lB, lp, hR, hR2, hE, ⟨fun y => z ⟨y.1, by omega⟩, fun y => z ⟨y.1, by omega⟩, fun y => z ⟨y.1, by omega⟩⟩, h41⟩⟩
    rw [b102_7]
    split
    · rfl
    · rw [a.1.csN (c := 42) 42 rfl (by decide) (fun y => z ⟨y.1, by omega⟩), am_call_s, am_toL, b102_21, if_pos rfl, a.1.csN (c := 47) 47 rfl (by decide) (fun y => z ⟨y.1, by omega⟩), am_call_s, am_toL, b102_31, if_pos rfl, a.1.csN (c := 37) 37 rfl (by decide) (fun y => z ⟨y.1, by omega⟩), am_call_s, am_toL, b102_41, if_pos rfl]
  | succ fu ih =>
    intro C' M' J' A B R p' q' k' v' w' c v3 hfu a lA lB lp hc hR hR2 hE hN h41
    by_cases z : k' = 5 ∧ (v' = 42 ∨ v' = 47 ∨ v' = 37)
    · obtain ⟨rfl, hv⟩ := z
      have hpq := a.1.pq (by omega)
      have hvv : v' = 43 ∨ v' = 45 ∨ v' = 42 ∨ v' = 47 ∨ v' = 37 := by omega
      obtain ⟨cd1, cd2, cd3, cd4, cd5⟩ := ars hvv
      have cr : rk (cdo v') = 6 := cd5 (by omega)
      obtain ⟨C2, M2, J2, c1, fin⟩ := a.ar (e := e) (Jc := Jc) b (by omega) hvv hph (by rw [cr]; exact hs) (by rw [cr]; exact hR) (by omega) (by omega) (by omega) (by omega) (d + 4 * h + 3)
      have v5 : C' 1 5 = nI v' := (a.1.t5 rfl).2.1
      have c53 : am_ev (d + 4 * h + 6) 102 7 [.ref 1, .int (nI o), .int (nI c), v3] [] (C', Jc, (tc_R x), tc_S, 289, 11479) = am_ev (d + 4 * h + 6) 102 53 [.ref 1, .int (nI o), .int (nI c), .int (nI v')] [] (C2, Jc, (tc_R x), tc_S, 289, 11479) := by
        rw [b102_7, if_neg (geL (c := 1600) 1600 rfl (by omega) (by omega))]
        rcases hv with rfl | rfl | rfl
        · rw [a.1.csY (c := 42) rfl, am_call_s, am_toL, b102_21, if_neg (by decide : ¬ (1 : Int32) = 0), c1, am_call_s, am_toN, v5]
        · rw [a.1.csN (c := 42) 42 rfl (by decide) (by omega), am_call_s, am_toL, b102_21, if_pos rfl, a.1.csY (c := 47) rfl, am_call_s, am_toL, b102_31, if_neg (by decide : ¬ (1 : Int32) = 0), c1, am_call_s, am_toN, v5]
        · rw [a.1.csN (c := 42) 42 rfl (by decide) (by omega), am_call_s, am_toL, b102_21, if_pos rfl, a.1.csN (c := 47) 47 rfl (by decide) (by omega), am_call_s, am_toL, b102_31, if_pos rfl, a.1.csY (c := 37) rfl, am_call_s, am_toL, b102_41, if_neg (by decide : ¬ (1 : Int32) = 0), c1, am_call_s, am_toN, v5]
      rw [c53]
      rcases fin with ⟨l1, y41, p2, q2, k2, v2, w2, z1, a2⟩ | ⟨l1, bx⟩
      · have fr2 := a2.fr b
        have lo : (B ++ opz R).length = B.length + R.length := by rw [List.length_append, opz_l]
        obtain ⟨C3, M3, J3, c3, hh⟩ := F fk ph bs _ _ _ p2 q2 k2 v2 w2 C2 M2 J2 d e a2.1 fr2 a2.2.2.2.2.2.2 (by omega) (by rw [lo]; omega) (by show 4 * (m + 1) ≤ _; omega) (Or.inr (Or.inl (y41.trans h41))) hfk hph ⟨by have := hs.1; show bs ≤ m + 1; omega, Or.inr ⟨cdo v', tp0 a2.2.2.1, by omega, by omega, by rw [cr]; omega, by have := hs.1; show bs < m + 1; omega⟩⟩
        · rcases hh with ⟨l2, A2, B2, R2, p3, q3, k3, v3', w3, a3, lA3, lB3, lp3, hR3, hl2, hE3, hN3, h413⟩ | ⟨l2, bx⟩
          · have a4 := a2.tr a3 (by rw [lo]; omega)
            have pn3 := a3.1.pn
            have lA4 : (A ++ A2).length = A.length + A2.length := List.length_append
            have c4 := a4.emC (Jc := Jc) (by rw [lA4]; omega) (cdo v', 0) (d + 4 * h + 4)
            have a5 := a4.em (cdo v', 0)
            have hE5 := (hE.op hE3 (c := cdo v') (by omega) (by omega)).mono (t := 3 * h + 2) (by omega)
            have eV : B ++ opz R ++ (B2 ++ opz R2) ++ [(cdo v', (0 : Int))] = (B ++ opz R ++ B2) ++ opz (R2 ++ [cdo v']) := by simp [opz, List.map_append]
            rw [eV] at hE5
            have key : am_ev (d + 4 * h + 6) 102 53 [.ref 1, .int (nI o), .int (nI c), .int (nI v')] [] (C2, Jc, (tc_R x), tc_S, 289, 11479) = am_ev (d + 4 * h + 6) 102 7 [.ref 1, .int (nI o), .int (nI (c + 1)), .int (nI v')] [] (am_u2 (am_u2 C3 (tc_P (!x) + 34) (la + (A ++ A2).length) (l_cc (cdo v', 0))) (tc_P (!x) + 33) 2 (nI (la + (A ++ A2).length + 1)), Jc, (tc_R x), tc_S, 289, 11479) := by
              rw [b102_53, c3, am_call_s, am_toN, b102_58, cd3, c4, am_call_s, am_toN, b102_71, nI_1]
            rw [key, l1, l2]
            refine ih _ M3 J3 _ _ _ p3 q3 k3 v3' w3 (c + 1) _ (by omega) a5 (by rw [List.length_append, lA4]; show p + (A.length + A2.length + 1) ≤ p3; omega) ?_ (by omega) (by omega) ((hR3.mono (by omega)).app (fun c hc => by rw [List.mem_singleton.mp hc]; exact ⟨by omega, by omega, by omega⟩)) (by rw [List.length_append]; show R2.length + 1 ≤ 1; omega) hE5 hN3 h413
            rw [List.length_append, lo, List.length_append]
            show p + (B.length + R.length + B2.length) + (R2.length + 1) ≤ p3
            omega
          · obtain ⟨C4, d1, d2, d3⟩ := bx.2.2.2.em (Jc := Jc) (nI v' ^^^ (-1)) (d + 4 * h + 4)
            refine ⟨C4, M3, J3, ?_, Or.inr ⟨l1.trans l2, BdX.of a2.2.2.1.rc a2.2.2.1.rm a2.2.1 (bx.cl d2 d3)⟩⟩
            rw [b102_53, c3, am_call_s, am_toN, b102_58, d1, am_call_s, am_toN, b102_71]
            exact d3.pr7 (nI o) (nI c + 1) _ (d + 4 * h + 2)
      · obtain ⟨C4, d1, d2, d3⟩ := bx.2.2.2.pr53 (Jc := Jc) (nI o) (nI c) (nI v') (d + 4 * h + 2)
        exact ⟨C4, M2, J2, d1, Or.inr ⟨l1, bx.cl d2 d3⟩⟩
    · refine ⟨C', M', J', ?_, Or.inl ⟨rfl, A, B, R, p', q', k', v', w', a, lA, lB, lp, hR, hR2, hE, ⟨fun y => z ⟨y.1, by omega⟩, fun y => z ⟨y.1, by omega⟩, fun y => z ⟨y.1, by omega⟩⟩, h41⟩⟩
      rw [b102_7]
      split
      · rfl
      · rw [a.1.csN (c := 42) 42 rfl (by decide) (fun y => z ⟨y.1, by omega⟩), am_call_s, am_toL, b102_21, if_pos rfl, a.1.csN (c := 47) 47 rfl (by decide) (fun y => z ⟨y.1, by omega⟩), am_call_s, am_toL, b102_31, if_pos rfl, a.1.csN (c := 37) 37 rfl (by decide) (fun y => z ⟨y.1, by omega⟩), am_call_s, am_toL, b102_41, if_pos rfl]
theorem prd_all (F : ArP T n x Jc o h 103 5 7 (3 * h + 1) 28 N7) (ho : o + h = 8) : ArP T n x Jc o h 102 6 6 (3 * h + 2) 24 N6 := by
  intro fk ph bs la lb m p q k v w C M J d e g b h61 hla hlb hm hfst hfk hph hs
  obtain ⟨C2, M2, J2, c1, hh⟩ := F fk ph bs la lb m p q k v w C M J d e g b h61 hla hlb (by omega) hfst hfk hph (hs.mono (by omega))
  rcases hh with ⟨l1, A, B, R, p2, q2, k2, v2, w2, a, lA, lB, lp, hR, hl2, hE, hN, h41⟩ | ⟨l1, bx⟩
  · obtain ⟨C3, M3, J3, c3, hh⟩ := prd_loop F ho b hs hph hla hlb hm hfk d e 1600 C2 M2 J2 A B R p2 q2 k2 v2 w2 0 am_un (by omega) a lA lB lp (by omega) (hR.mono (by omega)) (by omega) (hE.mono (by omega)) hN h41
    refine ⟨C3, M3, J3, ?_, by rw [l1]; exact hh⟩
    rw [b102_0, c1, am_call_s, am_toN, b102_5]
    exact c3
  · refine ⟨C2, M2, J2, ?_, Or.inr ⟨l1, bx⟩⟩
    rw [b102_0, c1, am_call_s, am_toN, b102_5]
    exact bx.2.2.2.pr7 (nI o) 0 _ (d + 4 * h + 2)
theorem sum_loop (F : ArP T n x Jc o h 102 6 6 (3 * h + 2) 24 N6) (ho : o + h = 8) (b : Fr x o fk ph bs la lb m C M) (hs : Stq M bs m 5) (hph : ph ≤ 1) (hla : la ≤ p) (hlb : lb ≤ p) (hm : 4 * m ≤ p + 24 * o + 20) (hfk : fk ≤ 5) (d e : Nat) : ∀ fu (C' M' : tI) (J' : tJ) (A B : List (Nat × Int)) (R : List Nat) (p' q' k' v' : Nat) (w' : List Nat) (c : Nat) (v3 : Value), 1600 - p' ≤ fu → Acc T n x o la lb m C M J C' M' J' A B R p' q' k' v' w' 1 ph → p + A.length ≤ p' → p + B.length + R.length ≤ p' → p < p' → c ≤ p' → Pn 5 R → R.length ≤ 2 → EqV (3 * h + 3) A (B ++ opz R) → N6 k' v' → M' 41 o = 0 → Out e x C M J Jc (am_ev (d + 4 * h + 7) 101 7 [.ref 1, .int (nI o), .int (nI c), v3] [] (C', Jc, (tc_R x), tc_S, 289, 11479)) (Lp e M' J') (Ar T n x o la lb m p ph 5 (3 * h + 3) N5 C M J) := by
  intro fu
  induction fu with
  | zero =>
    intro C' M' J' A B R p' q' k' v' w' c v3 hfu a lA lB lp hc hR hR2 hE hN h41
    have hk : k' = 1 := by
      rcases Nat.decEq k' 1 with z | z
      · have := a.1.pq z; omega
      · exact z
    subst hk
    have z : ¬ (1 = 5 ∧ (v' = 43 ∨ v' = 45)) := by omega
    refine ⟨C', M', J', ?_, Or.inl ⟨rfl, A, B, R, p', q', 1, v', w', a, lA, lB, lp, hR, hR2, hE, ⟨fun y => z ⟨y.1, by omega⟩, fun y => z ⟨y.1, by omega⟩, hN.1, hN.2.1, hN.2.2⟩, h41⟩⟩
    rw [b101_7]
    split
    · rfl
    · rw [a.1.csN (c := 43) 43 rfl (by decide) (fun y => z ⟨y.1, by omega⟩), am_call_s, am_toL, b101_21, if_pos rfl, a.1.csN (c := 45) 45 rfl (by decide) (fun y => z ⟨y.1, by omega⟩), am_call_s, am_toL, b101_31, if_pos rfl]
  | succ fu ih =>
    intro C' M' J' A B R p' q' k' v' w' c v3 hfu a lA lB lp hc hR hR2 hE hN h41
    by_cases z : k' = 5 ∧ (v' = 43 ∨ v' = 45)
    · obtain ⟨rfl, hv⟩ := z
      have hpq := a.1.pq (by omega)
      have hvv : v' = 43 ∨ v' = 45 ∨ v' = 42 ∨ v' = 47 ∨ v' = 37 := by omega
      obtain ⟨cd1, cd2, cd3, cd4, cd5⟩ := ars hvv
      have cr : rk (cdo v') = 5 := cd4 (by omega)
      obtain ⟨C2, M2, J2, c1, fin⟩ := a.ar (e := e) (Jc := Jc) b (by omega) hvv hph (by rw [cr]; exact hs) (by rw [cr]; exact hR) (by omega) (by omega) (by omega) (by omega) (d + 4 * h + 4)
      have v5 : C' 1 5 = nI v' := (a.1.t5 rfl).2.1
      have c53 : am_ev (d + 4 * h + 7) 101 7 [.ref 1, .int (nI o), .int (nI c), v3] [] (C', Jc, (tc_R x), tc_S, 289, 11479) = am_ev (d + 4 * h + 7) 101 43 [.ref 1, .int (nI o), .int (nI c), .int (nI v')] [] (C2, Jc, (tc_R x), tc_S, 289, 11479) := by
        rw [b101_7, if_neg (geL (c := 1600) 1600 rfl (by omega) (by omega))]
        rcases hv with rfl | rfl
        · rw [a.1.csY (c := 43) rfl, am_call_s, am_toL, b101_21, if_neg (by decide : ¬ (1 : Int32) = 0), c1, am_call_s, am_toN, v5]
        · rw [a.1.csN (c := 43) 43 rfl (by decide) (by omega), am_call_s, am_toL, b101_21, if_pos rfl, a.1.csY (c := 45) rfl, am_call_s, am_toL, b101_31, if_neg (by decide : ¬ (1 : Int32) = 0), c1, am_call_s, am_toN, v5]
      rw [c53]
      rcases fin with ⟨l1, y41, p2, q2, k2, v2, w2, z1, a2⟩ | ⟨l1, bx⟩
      · have fr2 := a2.fr b
        have lo : (B ++ opz R).length = B.length + R.length := by rw [List.length_append, opz_l]
        obtain ⟨C3, M3, J3, c3, hh⟩ := F fk ph bs _ _ _ p2 q2 k2 v2 w2 C2 M2 J2 d e a2.1 fr2 a2.2.2.2.2.2.2 (by omega) (by rw [lo]; omega) (by show 4 * (m + 1) ≤ _; omega) (Or.inr (Or.inl (y41.trans h41))) hfk hph ⟨by have := hs.1; show bs ≤ m + 1; omega, Or.inr ⟨cdo v', tp0 a2.2.2.1, by omega, by omega, by rw [cr]; omega, by have := hs.1; show bs < m + 1; omega⟩⟩
        · rcases hh with ⟨l2, A2, B2, R2, p3, q3, k3, v3', w3, a3, lA3, lB3, lp3, hR3, hl2, hE3, hN3, h413⟩ | ⟨l2, bx⟩
          · have a4 := a2.tr a3 (by rw [lo]; omega)
            have pn3 := a3.1.pn
            have lA4 : (A ++ A2).length = A.length + A2.length := List.length_append
            have c4 := a4.emC (Jc := Jc) (by rw [lA4]; omega) (cdo v', 0) (d + 4 * h + 5)
            have a5 := a4.em (cdo v', 0)
            have hE5 := (hE.op hE3 (c := cdo v') (by omega) (by omega)).mono (t := 3 * h + 3) (by omega)
            have eV : B ++ opz R ++ (B2 ++ opz R2) ++ [(cdo v', (0 : Int))] = (B ++ opz R ++ B2) ++ opz (R2 ++ [cdo v']) := by simp [opz, List.map_append]
            rw [eV] at hE5
            have key : am_ev (d + 4 * h + 7) 101 43 [.ref 1, .int (nI o), .int (nI c), .int (nI v')] [] (C2, Jc, (tc_R x), tc_S, 289, 11479) = am_ev (d + 4 * h + 7) 101 7 [.ref 1, .int (nI o), .int (nI (c + 1)), .int (nI v')] [] (am_u2 (am_u2 C3 (tc_P (!x) + 34) (la + (A ++ A2).length) (l_cc (cdo v', 0))) (tc_P (!x) + 33) 2 (nI (la + (A ++ A2).length + 1)), Jc, (tc_R x), tc_S, 289, 11479) := by
              rw [b101_43, c3, am_call_s, am_toN, b101_48, cd3, c4, am_call_s, am_toN, b101_61, nI_1]
            rw [key, l1, l2]
            refine ih _ M3 J3 _ _ _ p3 q3 k3 v3' w3 (c + 1) _ (by omega) a5 (by rw [List.length_append, lA4]; show p + (A.length + A2.length + 1) ≤ p3; omega) ?_ (by omega) (by omega) ((hR3.mono (by omega)).app (fun c hc => by rw [List.mem_singleton.mp hc]; exact ⟨by omega, by omega, by omega⟩)) (by rw [List.length_append]; show R2.length + 1 ≤ 2; omega) hE5 hN3 h413
            rw [List.length_append, lo, List.length_append]
            show p + (B.length + R.length + B2.length) + (R2.length + 1) ≤ p3
            omega
          · obtain ⟨C4, d1, d2, d3⟩ := bx.2.2.2.em (Jc := Jc) (nI v' ^^^ (-1)) (d + 4 * h + 5)
            refine ⟨C4, M3, J3, ?_, Or.inr ⟨l1.trans l2, BdX.of a2.2.2.1.rc a2.2.2.1.rm a2.2.1 (bx.cl d2 d3)⟩⟩
            rw [b101_43, c3, am_call_s, am_toN, b101_48, d1, am_call_s, am_toN, b101_61]
            exact d3.sm7 (nI o) (nI c + 1) _ (d + 4 * h + 2)
      · obtain ⟨C4, d1, d2, d3⟩ := bx.2.2.2.sm43 (Jc := Jc) (nI o) (nI c) (nI v') (d + 4 * h + 2)
        exact ⟨C4, M2, J2, d1, Or.inr ⟨l1, bx.cl d2 d3⟩⟩
    · refine ⟨C', M', J', ?_, Or.inl ⟨rfl, A, B, R, p', q', k', v', w', a, lA, lB, lp, hR, hR2, hE, ⟨fun y => z ⟨y.1, by omega⟩, fun y => z ⟨y.1, by omega⟩, hN.1, hN.2.1, hN.2.2⟩, h41⟩⟩
      rw [b101_7]
      split
      · rfl
      · rw [a.1.csN (c := 43) 43 rfl (by decide) (fun y => z ⟨y.1, by omega⟩), am_call_s, am_toL, b101_21, if_pos rfl, a.1.csN (c := 45) 45 rfl (by decide) (fun y => z ⟨y.1, by omega⟩), am_call_s, am_toL, b101_31, if_pos rfl]
theorem sum_all (F : ArP T n x Jc o h 102 6 6 (3 * h + 2) 24 N6) (ho : o + h = 8) : ArP T n x Jc o h 101 7 5 (3 * h + 3) 20 N5 := by
  intro fk ph bs la lb m p q k v w C M J d e g b h61 hla hlb hm hfst hfk hph hs
  obtain ⟨C2, M2, J2, c1, hh⟩ := F fk ph bs la lb m p q k v w C M J d e g b h61 hla hlb (by omega) hfst hfk hph (hs.mono (by omega))
  rcases hh with ⟨l1, A, B, R, p2, q2, k2, v2, w2, a, lA, lB, lp, hR, hl2, hE, hN, h41⟩ | ⟨l1, bx⟩
  · obtain ⟨C3, M3, J3, c3, hh⟩ := sum_loop F ho b hs hph hla hlb hm hfk d e 1600 C2 M2 J2 A B R p2 q2 k2 v2 w2 0 am_un (by omega) a lA lB lp (by omega) (hR.mono (by omega)) (by omega) (hE.mono (by omega)) hN h41
    refine ⟨C3, M3, J3, ?_, by rw [l1]; exact hh⟩
    rw [b101_0, c1, am_call_s, am_toN, b101_5]
    exact c3
  · refine ⟨C2, M2, J2, ?_, Or.inr ⟨l1, bx⟩⟩
    rw [b101_0, c1, am_call_s, am_toN, b101_5]
    exact bx.2.2.2.sm7 (nI o) 0 _ (d + 4 * h + 2)
end LAR
