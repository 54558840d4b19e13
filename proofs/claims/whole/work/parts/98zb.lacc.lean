/-! LAWS: how far both have come, side by side -/
def BdX (x : Bool) (C M : tI) (J : tJ) (C' M' : tI) (J' : tJ) : Prop := RLw x C C' ∧ RM (!x) M M' ∧ JF J J' ∧ BdL x C' M'
def Fr (x : Bool) (o fk ph bs la lb m : Nat) (C M : tI) : Prop := M 0 51 = nI (xb (!x)) ∧ M 0 57 = nI (o + 1) ∧ M 0 58 = nI o ∧ M 39 o = nI fk ∧ M 40 o = nI ph ∧ M 43 o = nI bs ∧ C (tc_P (!x) + 33) 2 = nI la ∧ M 0 50 = nI lb ∧ M 0 60 = nI m
def Stq (M : tI) (bs m r : Nat) : Prop := bs ≤ m ∧ (m = bs ∨ ∃ c, M 44 (m - 1) = nI c ∧ 10 ≤ c ∧ c ≤ 22 ∧ rk c < r ∧ bs < m)
def Pn (r : Nat) (R : List Nat) : Prop := ∀ c ∈ R, 10 ≤ c ∧ c ≤ 22 ∧ r ≤ rk c
abbrev opz (R : List Nat) : List (Nat × Int) := R.map (fun c => (c, (0 : Int)))
def Acc (T : Nat → Nat) (n : Nat) (x : Bool) (o la lb m : Nat) (C M : tI) (J : tJ) (C' M' : tI) (J' : tJ) (A B : List (Nat × Int)) (R : List Nat) (p q k v : Nat) (w : List Nat) (op ph : Nat) : Prop := Gd T n C' M' J' p q k v w ∧ JF J J' ∧ Tk x o la lb m C M C' M' A B R.reverse ∧ M' 0 57 = nI (o + 1) ∧ M' 0 58 = nI o ∧ M' 40 o = nI ph ∧ M' 0 61 = nI op
section LAC
variable {T : Nat → Nat} {n p q k v o la lb m fk ph op bs r : Nat} {w : List Nat} {x : Bool} {C M C' M' C2 M2 : tI} {J J' J2 Jc : tJ} {A B A2 B2 : List (Nat × Int)} {R R2 Q : List Nat} {e : Nat}
theorem Gd.pq (g : Gd T n C M J p q k v w) (hk : k ≠ 1) : p < q ∧ q ≤ 1600 := ⟨g.2.2.2.2.2.2.2.2.2.2.1 hk, Nat.le_trans g.2.1 g.1.1.2.2.1⟩
theorem nI_nz {a : Nat} (h : 0 < a) (h2 : a < 2 ^ 31) : ¬ nI a = 0 := fun z => by have := (nI_eq (b := 0) h2 (by omega)).mp z; omega
theorem Tk.rc (t : Tk x o la lb m C M C' M' A B Q) : RLw x C C' := fun a b z1 z2 z3 => t.1 a b z1 z2 (fun z => z3 z.1)
theorem Tk.rm (t : Tk x o la lb m C M C' M' A B Q) : RM (!x) M M' := fun a j z1 z2 z3 => t.2.1 a j z1 (fun z => z2 (by
  have e37 : sdd 37 = 1600 := rfl
  have e38 : sdd 38 = 1600 := rfl
  rcases z with ⟨rfl | rfl, h1, h2⟩
  · rw [e37]; exact ⟨by omega, by omega, by omega, by omega⟩
  · rw [e38]; exact ⟨by omega, by omega, by omega, by omega⟩)) (fun z => z3 (by omega)) (fun z => z3 (by omega)) (fun z => z3 (by omega))
theorem Tk.bdx (t : Tk x o la lb m C M C' M' A B Q) (rj : JF J J') (hb : Bd C' M') (hl : la + A.length ≤ 1600) : BdX x C M J C' M' J' := ⟨t.rc, t.rm, rj, hb, la + A.length, hl, t.2.2.1⟩
theorem BdX.of (rc : RLw x C C') (rm : RM (!x) M M') (rj : JF J J') (h : BdX x C' M' J' C2 M2 J2) : BdX x C M J C2 M2 J2 := ⟨rc.tr h.1, rm.tr h.2.1, rj.tr h.2.2.1, h.2.2.2⟩
theorem BdX.cl (h : BdX x C M J C' M' J') (rc : RLw x C' C2) (hb : BdL x C2 M') : BdX x C M J C2 M' J' := ⟨h.1.tr rc, h.2.1, h.2.2.1, hb⟩
theorem Sm.rm (h : Sm o M M') : RM (!x) M M' := fun a j z1 z2 z3 => h a j (fun z => z1 (by omega)) (fun z => z3 (by omega)) (fun z => z3 (by omega))
theorem Bd.n8 (h : Bd C M) : ¬ M 0 8 ≤ 0 := by
  obtain ⟨f, p0, f0, f5, _, m8, _⟩ := h
  rw [m8]; exact (show ¬ nI f ≤ 0 from nI_ge (a := 0) f0 (by omega))
theorem Acc.fr (b : Fr x o fk ph bs la lb m C M) {ph2 : Nat} (a : Acc T n x o la lb m C M J C' M' J' A B R p q k v w op ph2) : Fr x o fk ph2 bs (la + A.length) (lb + B.length) (m + R.length) C' M' := by
  obtain ⟨b51, b57, b58, b39, b40, b43, bC, b50, b60⟩ := b
  obtain ⟨g, rj, t, a57, a58, a40, a61⟩ := a
  refine ⟨?_, a57, a58, ?_, a40, ?_, t.2.2.1, t.2.2.2.2.1, ?_⟩
  · rw [t.2.1 _ _ (by omega) (by omega) (by omega) (by omega) (by omega)]; exact b51
  · rw [t.2.1 _ _ (by omega) (by omega) (by omega) (by omega) (by omega)]; exact b39
  · rw [t.2.1 _ _ (by omega) (by omega) (by omega) (by omega) (by omega)]; exact b43
  · rw [t.2.2.2.2.2.2.1, List.length_reverse]
theorem Acc.tr (a : Acc T n x o la lb m C M J C' M' J' A B R p q k v w op ph) {p2 q2 k2 v2 op2 ph2 : Nat} {w2 : List Nat} (a2 : Acc T n x o (la + A.length) (lb + B.length) (m + R.length) C' M' J' C2 M2 J2 A2 B2 R2 p2 q2 k2 v2 w2 op2 ph2) (hb : lb + B.length ≤ 1600) : Acc T n x o la lb m C M J C2 M2 J2 (A ++ A2) (B ++ B2) (R2 ++ R) p2 q2 k2 v2 w2 op2 ph2 := by
  obtain ⟨_, rj, t, _⟩ := a
  obtain ⟨g2, rj2, t2, r2⟩ := a2
  refine ⟨g2, rj.tr rj2, ?_, r2⟩
  rw [List.reverse_append]
  refine t.tr (Nat.le_refl _) ?_ hb
  rw [List.length_reverse]; exact t2
theorem Stq.tk (h : Stq M bs m r) (t : Tk x o la lb m C M C' M' A B Q) : Stq M' bs m r := by
  obtain ⟨h1, h2⟩ := h
  refine ⟨h1, h2.imp id (fun ⟨c, c1, c2, c3, c4, c5⟩ => ⟨c, ?_, c2, c3, c4, c5⟩)⟩
  rw [t.2.1 _ _ (by omega) (by omega) (by omega) (by omega) (by omega)]; exact c1
theorem Stq.mono {r2 : Nat} (h : Stq M bs m r) (hr : r ≤ r2) : Stq M bs m r2 := ⟨h.1, h.2.imp id (fun ⟨c, c1, c2, c3, c4, c5⟩ => ⟨c, c1, c2, c3, by omega, c5⟩)⟩
/-- what is held back is joined -/
theorem Acc.jn (a : Acc T n x o la lb m C M J C' M' J' A B R p q k v w op ph) {ph0 : Nat} (b : Fr x o fk ph0 bs la lb m C M) (ho : o ≤ 9) (hr : r ≤ 6) (hs : Stq M bs m r) (hR : Pn r R) (h5 : m + R.length ≤ 500) (hB : lb + B.length + R.length ≤ 1600) (d : Nat) : ∃ M2, am_G (am_ev (d + 2)) 175 [.ref 0, .int (nI r)] (M', J', tm_R, tm_S, 77, 21637) = some (none, (M2, J', tm_R, tm_S, 77, 21637)) ∧ Acc T n x o la lb m C M J C' M2 J' A (B ++ opz R) [] p q k v w op ph ∧ ∀ a j, ¬ (a = 0 ∧ (j = 50 ∨ j = 60)) → a ≠ 37 → a ≠ 38 → M2 a j = M' a j := by
  have f := a.fr b
  have hs' := hs.tk a.2.2.1
  obtain ⟨g, rj, t, a57, a58, a40, a61⟩ := a
  obtain ⟨M2, q1, q2, q3⟩ := m_jn (Q := []) (J := J') ho hr (bs := bs) d R M' B t f.1 a57 f.2.2.2.2.2.1 hs'.1 hR h5 hB hs'.2
  refine ⟨M2, q1, ⟨?_, rj, q2, ?_, ?_, ?_, ?_⟩, q3⟩
  · exact g.wr (fun _ _ _ _ => rfl) (fun b hb => q3 _ _ (by omega) (by omega) (by omega)) (fun b => q3 _ _ (by omega) (by omega) (by omega)) rfl
  · rw [q3 _ _ (by omega) (by omega) (by omega)]; exact a57
  · rw [q3 _ _ (by omega) (by omega) (by omega)]; exact a58
  · rw [q3 _ _ (by omega) (by omega) (by omega)]; exact a40
  · rw [q3 _ _ (by omega) (by omega) (by omega)]; exact a61
/-- an operator: what is held back is joined, it is held back, both go on -/
theorem Acc.step (a : Acc T n x o la lb m C M J C' M' J' A B R p q k v w op ph) {ph0 : Nat} (b : Fr x o fk ph0 bs la lb m C M) (ho : o ≤ 9) (hr : r ≤ 6) (hs : Stq M bs m r) (hR : Pn r R) (h5 : m + R.length ≤ 500) (h5' : m < 500) (hB : lb + B.length + R.length ≤ 1600) (hk : k ≠ 0) (hk1 : k ≠ 1) (hA : la + A.length ≤ 1600) (c : Nat) (U : tI → tI) {ph2 : Nat} (hU : ∀ M3, M3 40 o = nI ph → Sm o M3 (U M3) ∧ (∀ b, U M3 0 b = M3 0 b) ∧ (∀ b, U M3 1 b = M3 1 b) ∧ U M3 40 o = nI ph2) (d : Nat) : ∃ M2 M3 C4 M4 J4, am_G (am_ev (e + 4)) 175 [.ref 0, .int (nI r)] (M', J', tm_R, tm_S, 77, 21637) = some (none, (M2, J', tm_R, tm_S, 77, 21637)) ∧ Gd T n C' M2 J' p q k v w ∧ am_G (am_ev (e + 4)) 176 [.ref 0, .int (nI c)] (M2, J', tm_R, tm_S, 77, 21637) = some (none, (M3, J', tm_R, tm_S, 77, 21637)) ∧ am_G (am_ev (d + 2)) 76 [.ref 1] (C', Jc, (tc_R x), tc_S, 289, 11479) = some (none, (C4, Jc, (tc_R x), tc_S, 289, 11479)) ∧ am_G (am_ev (e + 4)) 164 [.ref 0] (U M3, J', tm_R, tm_S, 77, 21637) = some (none, (M4, J4, tm_R, tm_S, 77, 21637)) ∧ (∀ a b, (a = 0 → b < 3 ∨ 9 < b) → M4 a b = U M3 a b) ∧ (∀ j, M3 41 j = M' 41 j) ∧ ((∃ p2 q2 k2 v2 w2, p < p2 ∧ q ≤ p2 ∧ Acc T n x o la lb m C M J C4 (am_u2 M4 0 61 0) J4 A (B ++ opz R) [c] p2 q2 k2 v2 w2 0 ph2 ∧ M4 0 8 = 0) ∨ (¬ M4 0 8 = 0 ∧ BdX x C M J C4 (am_u2 M4 0 61 0) J4)) := by
  obtain ⟨M2, j1, a2, j1f⟩ := a.jn b ho hr hs hR h5 hB (e + 2)
  obtain ⟨g2, rj, t2, a57, a58, a40, a61⟩ := a2
  obtain ⟨M3, j2, t3, j2f⟩ := m_hb (J := J') t2 (by rw [List.reverse_nil, List.length_nil]; omega) (c := c) (u := nI c) rfl (e + 3)
  obtain ⟨u1, u2, u3, u4⟩ := hU M3 (by rw [j2f _ _ (by omega) (by omega)]; exact a40)
  have g3 : Gd T n C' (U M3) J' p q k v w := g2.wr (fun _ _ _ _ => rfl) (fun b hb => by rw [u2, j2f _ _ (by omega) (by omega)]) (fun b => by rw [u3, j2f _ _ (by omega) (by omega)]) rfl
  obtain ⟨C4, M4, J4, e1, e2, f1, f2, f3, f4⟩ := g3.gox hk hk1 (x := x) (Jc := Jc) d (e + 2)
  have t4 : Tk x o la lb m C M C4 (am_u2 M4 0 61 0) A (B ++ opz R) [c] := (t3.cl f1).sm ((u1.tr f2.sm).u0 (by omega) 0)
  refine ⟨M2, M3, C4, M4, J4, j1, g2, j2, e1, e2, f2, fun j => by rw [j2f _ _ (by omega) (by omega), j1f _ _ (by omega) (by omega) (by omega)], ?_⟩
  rcases f4 with ⟨p2, q2, k2, v2, w2, g4, z1, z2, _⟩ | ⟨bd, _⟩
  · refine Or.inl ⟨p2, q2, k2, v2, w2, z1, z2, ⟨g4.u0 (by omega) 0, rj.tr f3, t4, ?_, ?_, ?_, u2_s⟩, g4.m8⟩
    · rw [u2_p (by omega), f2 _ _ (fun _ => by omega), u2, j2f _ _ (by omega) (by omega)]; exact a57
    · rw [u2_p (by omega), f2 _ _ (fun _ => by omega), u2, j2f _ _ (by omega) (by omega)]; exact a58
    · rw [u2_c (by omega), f2 _ _ (fun z => by omega)]; exact u4
  · exact Or.inr ⟨bd.m8, t4.bdx (rj.tr f3) (bd.wr (fun _ => rfl) (fun b hb => u2_p (by omega))) hA⟩
def cdo (v : Nat) : Nat := match v with
  | 43 => 10
  | 45 => 11
  | 42 => 12
  | 47 => 13
  | 37 => 14
  | 60 => 17
  | 62 => 18
  | _ => 19
theorem ars (h : v = 43 ∨ v = 45 ∨ v = 42 ∨ v = 47 ∨ v = 37) : 10 ≤ cdo v ∧ cdo v ≤ 14 ∧ nI v ^^^ (-1) = l_cc (cdo v, 0) ∧ ((v = 43 ∨ v = 45) → rk (cdo v) = 5) ∧ (¬ (v = 43 ∨ v = 45) → rk (cdo v) = 6) := by
  rcases h with rfl | rfl | rfl | rfl | rfl <;> decide
theorem cms (h : v = 60 ∨ v = 62 ∨ v = 61) : 17 ≤ cdo v ∧ cdo v ≤ 19 ∧ nI v ^^^ (-1) = l_cc (cdo v, 0) ∧ rk (cdo v) = 4 := by
  rcases h with rfl | rfl | rfl <;> decide
theorem m_gos (hv : v = 43 ∨ v = 45 ∨ v = 42 ∨ v = 47 ∨ v = 37) {M3 M4 : tI} {J4 : tJ} {f : Nat} (g : Gd T n C M J p q 5 v w) (h57 : M 0 57 = nI (o + 1)) (ho : o ≤ 9) (h40 : M 40 o = nI f) (hf : f ≤ 1) (j1 : am_G (am_ev (e + 4)) 175 [.ref 0, .int (nI (rk (cdo v)))] (M, J, tm_R, tm_S, 77, 21637) = some (none, (M2, J, tm_R, tm_S, 77, 21637))) (g2 : Gd T n C M2 J p q 5 v w) (j2 : am_G (am_ev (e + 4)) 176 [.ref 0, .int (nI (cdo v))] (M2, J, tm_R, tm_S, 77, 21637) = some (none, (M3, J, tm_R, tm_S, 77, 21637))) (j3 : am_G (am_ev (e + 4)) 164 [.ref 0] (M3, J, tm_R, tm_S, 77, 21637) = some (none, (M4, J4, tm_R, tm_S, 77, 21637))) : am_G (am_ev (e + 5)) 181 [.ref 0] (M, J, tm_R, tm_S, 77, 21637) = some (some (.int 1), (am_u2 M4 0 61 0, J4, tm_R, tm_S, 77, 21637)) := by
  rcases hv with rfl | rfl | rfl | rfl | rfl
  · exact m_go43 g h57 ho h40 hf j1 g2 j2 j3
  · exact m_go45 g h57 ho h40 hf j1 g2 j2 j3
  · exact m_go42 g h57 ho h40 hf j1 g2 j2 j3
  · exact m_go47 g h57 ho h40 hf j1 g2 j2 j3
  · exact m_go37 g h57 ho h40 hf j1 g2 j2 j3
/-- a sign of a sum or a product -/
theorem Acc.ar (a : Acc T n x o la lb m C M J C' M' J' A B R p q 5 v w 1 ph) {ph0 : Nat} (b : Fr x o fk ph0 bs la lb m C M) (ho : o ≤ 9) (hv : v = 43 ∨ v = 45 ∨ v = 42 ∨ v = 47 ∨ v = 37) (hph : ph ≤ 1) (hs : Stq M bs m (rk (cdo v))) (hR : Pn (rk (cdo v)) R) (h5 : m + R.length ≤ 500) (h5' : m < 500) (hB : lb + B.length + R.length ≤ 1600) (hA : la + A.length ≤ 1600) (d : Nat) : ∃ C2 M2 J2, am_G (am_ev (d + 2)) 76 [.ref 1] (C', Jc, (tc_R x), tc_S, 289, 11479) = some (none, (C2, Jc, (tc_R x), tc_S, 289, 11479)) ∧ ((Lp e M' J' = Lp e M2 J2 ∧ M2 41 o = M' 41 o ∧ ∃ p2 q2 k2 v2 w2, p < p2 ∧ Acc T n x o la lb m C M J C2 M2 J2 A (B ++ opz R) [cdo v] p2 q2 k2 v2 w2 0 ph) ∨ (Lp e M' J' = some (none, (M2, J2, tm_R, tm_S, 77, 21637)) ∧ BdX x C M J C2 M2 J2)) := by
  have hrk := rk_b (cdo v)
  obtain ⟨M2, M3, C4, M4, J4, j1, g2, j2, c1, j3, f2, f41, fin⟩ := a.step (e := e) b ho hrk.2 hs hR h5 h5' hB (by omega) (by omega) hA (cdo v) id (ph2 := ph) (fun M3 h => ⟨Sm.rf, fun _ => rfl, fun _ => rfl, h⟩) (Jc := Jc) d
  have m1 := m_gos (e := e) hv a.1 a.2.2.2.1 ho a.2.2.2.2.2.1 hph j1 g2 j2 j3
  have l1 := Lp_go (e := e) (J := J') a.2.2.2.2.2.2 m1
  have e8 : am_u2 M4 0 61 0 0 8 = M4 0 8 := u2_p (by omega)
  refine ⟨C4, am_u2 M4 0 61 0, J4, c1, ?_⟩
  rcases fin with ⟨p2, q2, k2, v2, w2, z1, _, a4, h8⟩ | ⟨h8, bx⟩
  · exact Or.inl ⟨l1.1 rfl (e8.trans h8), by rw [u2_c (by omega), f2 _ _ (fun z => by omega)]; exact f41 o, p2, q2, k2, v2, w2, z1, a4⟩
  · exact Or.inr ⟨l1.2 (Or.inr (by rw [e8]; exact h8)), bx⟩
theorem Acc.em (a : Acc T n x o la lb m C M J C' M' J' A B R p q k v w op ph) (c : Nat × Int) : Acc T n x o la lb m C M J (am_u2 (am_u2 C' (tc_P (!x) + 34) (la + A.length) (l_cc c)) (tc_P (!x) + 33) 2 (nI (la + A.length + 1))) M' J' (A ++ [c]) B R p q k v w op ph := by
  have hy := tc_P4 (!x)
  obtain ⟨g, rj, t, r4⟩ := a
  exact ⟨g.wr (fun a b h1 h2 => by rw [u2_c (by omega), u2_c (by omega)]) (fun _ _ => rfl) (fun _ => rfl) rfl, rj, t.em c, r4⟩
theorem Acc.emC (a : Acc T n x o la lb m C M J C' M' J' A B R p q k v w op ph) (h : la + A.length < 1600) (c : Nat × Int) (d : Nat) : am_G (am_ev (d + 1)) 41 [.ref (tc_P (!x) + 33), .int (l_cc c)] (C', Jc, (tc_R x), tc_S, 289, 11479) = some (none, (am_u2 (am_u2 C' (tc_P (!x) + 34) (la + A.length) (l_cc c)) (tc_P (!x) + 33) 2 (nI (la + A.length + 1)), Jc, (tc_R x), tc_S, 289, 11479)) := c_em0 a.2.2.1.2.2.1 h (l_cc c) d
theorem Pn.mono {r2 : Nat} (h : Pn r R) (hr : r2 ≤ r) : Pn r2 R := fun c hc => ⟨(h c hc).1, (h c hc).2.1, by have := (h c hc).2.2; omega⟩
theorem Pn.nil7 (h : Pn 7 R) : R = [] := by
  cases R with
  | nil => rfl
  | cons c S => have := (h c (List.mem_cons_self ..)).2.2; have := rk_b c; omega
theorem Pn.app (h : Pn r R) (h2 : Pn r R2) : Pn r (R ++ R2) := fun c hc => (List.mem_append.mp hc).elim (h c) (h2 c)
theorem opz_l (R : List Nat) : (opz R).length = R.length := List.length_map ..
end LAC
