/-! LAWS: brackets are opened; leaves -/
def Out (e : Nat) (x : Bool) (C M : tI) (J Jc : tJ) (cl ml : am_O) (P : tI → tI → tJ → Prop) : Prop := ∃ C' M' J', cl = some (none, (C', Jc, (tc_R x), tc_S, 289, 11479)) ∧ ((ml = Lp e M' J' ∧ P C' M' J') ∨ (ml = some (none, (M', J', tm_R, tm_S, 77, 21637)) ∧ BdX x C M J C' M' J'))
def Ar (T : Nat → Nat) (n : Nat) (x : Bool) (o la lb m p ph r s : Nat) (N : Nat → Nat → Prop) (C M : tI) (J : tJ) (C' M' : tI) (J' : tJ) : Prop := ∃ A B R p' q' k' v' w', Acc T n x o la lb m C M J C' M' J' A B R p' q' k' v' w' 1 ph ∧ p + A.length ≤ p' ∧ p + B.length + R.length ≤ p' ∧ p < p' ∧ Pn r R ∧ R.length ≤ 7 - r ∧ EqV s A (B ++ opz R) ∧ N k' v' ∧ M' 41 o = 0
section LOP
variable {T : Nat → Nat} {n p q k v o la lb m fk ph op bs r : Nat} {w : List Nat} {x : Bool} {C M C' M' C2 M2 : tI} {J J' J2 Jc : tJ} {A B A2 B2 : List (Nat × Int)} {R R2 Q : List Nat} {e : Nat}
theorem opn (g : Gd T n C M J p q 5 v w) (h57 : M 0 57 = nI (o + 1)) (h58 : M 0 58 = nI o) (h60 : M 0 60 = nI m) (ho : o ≤ 8) (fk : Nat) (d e : Nat) : ∃ C' M' J' s, am_G (am_ev (d + 3)) 100 [.ref 1, .int (nI v), .int (nI o)] (C, Jc, (tc_R x), tc_S, 289, 11479) = some (some (.int s), (C', Jc, (tc_R x), tc_S, 289, 11479)) ∧ am_G (am_ev (e + 4)) 178 [.ref 0, .int (nI fk)] (M, J, tm_R, tm_S, 77, 21637) = some (none, (M', J', tm_R, tm_S, 77, 21637)) ∧ TF C C' ∧ Sm o M M' ∧ JF J J' ∧ ((s = 1 ∧ o < 8 ∧ (∃ p' q' k' v' w', Gd T n C' M' J' p' q' k' v' w' ∧ p < p') ∧ M' 0 57 = nI (o + 1 + 1) ∧ M' 0 58 = nI (o + 1) ∧ M' 39 (o + 1) = nI fk ∧ M' 40 (o + 1) = 0 ∧ M' 41 (o + 1) = 1 ∧ M' 43 (o + 1) = nI m ∧ M' 40 o = M 40 o ∧ M' 0 61 = M 0 61 ∧ M' 0 60 = nI m ∧ M' 41 o = M 41 o) ∨ (Bd C' M' ∧ (s = 0 ∨ (s = 1 ∧ o < 8)))) := by
  have hsg := (g.t5 rfl).1
  by_cases z : o < 8
  · have g1 := g.u0 (i := 58) (by omega) (nI (o + 1))
    obtain ⟨C', M2, J', e1, e2, f1, f2, f3, f4⟩ := g1.gox (by omega) (by omega) (x := x) (Jc := Jc) d (e + 1)
    have i57 : M2 0 57 = nI (o + 1) := by rw [f2 _ _ (fun _ => by omega), u2_p (by omega)]; exact h57
    have i60 : M2 0 60 = nI m := by rw [f2 _ _ (fun _ => by omega), u2_p (by omega)]; exact h60
    have ck : Int32.toNatClampNeg (nI (o + 1)) = o + 1 := nI_clamp (by omega)
    have hi : am_in (nI (o + 1)) 20 := nI_in (by omega) (by omega)
    have c7 : C' 1 7 = 0 := by
      rcases f4 with ⟨p', q', k', v', w', g', _⟩ | ⟨_, z⟩
      · exact g'.c7
      · exact z
    have sm : Sm o M (am_u2 (am_u2 (am_u2 (am_u2 (am_u2 M2 39 (o + 1) (nI fk)) 40 (o + 1) 0) 41 (o + 1) 1) 43 (o + 1) (nI m)) 0 57 (nI (o + 1 + 1))) := (((((((Sm.rf.u0 (j := 58) (by omega) (nI (o + 1))).tr f2.sm).ui (by omega) (by omega) (by omega) _).ui (by omega) (by omega) (by omega) _).ui (by omega) (by omega) (by omega) _).ui (by omega) (by omega) (by omega) _).u0 (by omega) _)
    refine ⟨C', am_u2 (am_u2 (am_u2 (am_u2 (am_u2 M2 39 (o + 1) (nI fk)) 40 (o + 1) 0) 41 (o + 1) 1) 43 (o + 1) (nI m)) 0 57 (nI (o + 1 + 1)), J', 1, ?_, ?_, f1, sm, f3, ?_⟩
    · rw [b100_0, g.csY rfl, am_call_s, am_toL, b100_6, if_neg (by decide : ¬ (1 : Int32) = 0), if_pos (show nI o < 8 from nI_lt (b := 8) z (by omega)), e1, am_call_s, am_toN, b100_43, if_pos c7]
    · rw [b178_0, if_neg (by rw [h58]; exact fun y => by have := (nI_eq (b := 8) (by omega) (by omega)).mp y; omega), b178_18, if_pos (by rw [g.m8]; decide), h58, nI_1, e2, am_call_s, am_toN, b178_40, b177_0, i57, if_pos hi, if_pos hi, if_pos ⟨hi, Or.inr rfl⟩, if_pos hi, i60]
      (try simp only [ck])
      rw [nI_1, am_call_s, am_toN, b178_45]
    · rcases f4 with ⟨p', q', k', v', w', g', z1, z2, _⟩ | ⟨bd, _⟩
      · refine Or.inl ⟨rfl, z, ⟨p', q', k', v', w', ((((g'.uM (by omega) _).uM (by omega) _).uM (by omega) _).uM (by omega) _).u0 (by omega) _, z1⟩, u2_s, ?_, ?_, ?_, ?_, ?_, ?_, ?_, ?_, ?_⟩
        · rw [u2_p (by omega), u2_c (by omega), u2_c (by omega), u2_c (by omega), u2_c (by omega), f2 _ _ (fun _ => by omega), u2_s]
        · rw [u2_c (by omega), u2_c (by omega), u2_c (by omega), u2_c (by omega), u2_s]
        · rw [u2_c (by omega), u2_c (by omega), u2_c (by omega), u2_s]
        · rw [u2_c (by omega), u2_c (by omega), u2_s]
        · rw [u2_c (by omega), u2_s]
        · rw [u2_c (by omega), u2_c (by omega), u2_c (by omega), u2_p (by omega), u2_c (by omega), f2 _ _ (fun z => by omega), u2_c (by omega)]
        · rw [u2_p (by omega), u2_c (by omega), u2_c (by omega), u2_c (by omega), u2_c (by omega), f2 _ _ (fun _ => by omega), u2_p (by omega)]
        · rw [u2_p (by omega), u2_c (by omega), u2_c (by omega), u2_c (by omega), u2_c (by omega)]; exact i60
        · rw [u2_c (by omega), u2_c (by omega), u2_p (by omega), u2_c (by omega), u2_c (by omega), f2 _ _ (fun z => by omega), u2_c (by omega)]
      · refine Or.inr ⟨bd.wr (fun _ => rfl) (fun b hb => ?_), Or.inr ⟨rfl, z⟩⟩
        rw [u2_p (by omega), u2_c (by omega), u2_c (by omega), u2_c (by omega), u2_c (by omega)]
  · obtain rfl : o = 8 := by omega
    refine ⟨Fc C 5 p, Fmm M 5 p, J, 0, ?_, ?_, Fc_f C 5 p, (Fmm_f M 5 p).sm, JF.rf J, Or.inr ⟨g.fl (by omega) (by omega), Or.inl rfl⟩⟩
    · have j1 : am_G (am_ev (d + 2)) 75 [.ref 1, .int 5, .int (C 1 6)] (C, Jc, (tc_R x), tc_S, 289, 11479) = some (none, (Fc C 5 p, Jc, (tc_R x), tc_S, 289, 11479)) := g.failC (d + 1) 5
      rw [b100_0, g.csY rfl, am_call_s, am_toL, b100_6, if_neg (by decide : ¬ (1 : Int32) = 0), if_neg (by decide : ¬ nI 8 < 8), j1, am_call_s, am_toN, b100_36, b100_43, if_neg (by rw [Fc_7]; decide)]
    · have j1 : am_G (am_ev (e + 3)) 161 [.ref 0, .int 5, .int (M 0 4)] (M, J, tm_R, tm_S, 77, 21637) = some (none, (Fmm M 5 p, J, tm_R, tm_S, 77, 21637)) := g.failM (e + 2) 5
      rw [b178_0, if_pos (by rw [h58]; rfl), j1, am_call_s, am_toN, b178_18, if_neg (by rw [Fmm_8]; decide)]
/-- no bracket is there to be opened -/
theorem opnN (g : Gd T n C M J p q k v w) {j : Nat} (hj : j ∈ sgs) (hn : ¬ (k = 5 ∧ v = j)) (a : Int32) (d : Nat) : am_G (am_ev (d + 2)) 100 [.ref 1, .int (nI j), .int a] (C, Jc, (tc_R x), tc_S, 289, 11479) = some (some (.int 0), (Fc C 1 p, Jc, (tc_R x), tc_S, 289, 11479)) := by
  have j1 : am_G (am_ev (d + 1)) 75 [.ref 1, .int 1, .int (C 1 6)] (C, Jc, (tc_R x), tc_S, 289, 11479) = some (none, (Fc C 1 p, Jc, (tc_R x), tc_S, 289, 11479)) := g.failC d 1
  rw [b100_0, g.csN j rfl hj hn, am_call_s, am_toL, b100_6, if_pos rfl, j1, am_call_s, am_toN, b100_18, b100_43, if_neg (by rw [Fc_7]; decide)]
theorem tkY (g : Gd T n C M J p q 5 v w) (d : Nat) (e1 : am_G (am_ev (d + 2)) 76 [.ref 1] (C, Jc, (tc_R x), tc_S, 289, 11479) = some (none, (C', Jc, (tc_R x), tc_S, 289, 11479))) : am_G (am_ev (d + 3)) 80 [.ref 1, .int 5, .int (nI v)] (C, Jc, (tc_R x), tc_S, 289, 11479) = some (none, (C', Jc, (tc_R x), tc_S, 289, 11479)) := by
  rw [b80_0, g.csY rfl, am_call_s, am_toL, b80_6, if_neg (by decide : ¬ (1 : Int32) = 0), e1, am_call_s, am_toN, b80_13, b80_25]
theorem tkN (g : Gd T n C M J p q k v w) {j : Nat} (hj : j ∈ sgs) (hn : ¬ (k = 5 ∧ v = j)) (d : Nat) : am_G (am_ev (d + 3)) 80 [.ref 1, .int 5, .int (nI j)] (C, Jc, (tc_R x), tc_S, 289, 11479) = some (none, (Fc C 1 p, Jc, (tc_R x), tc_S, 289, 11479)) := by
  have j1 : am_G (am_ev (d + 2)) 75 [.ref 1, .int 1, .int (C 1 6)] (C, Jc, (tc_R x), tc_S, 289, 11479) = some (none, (Fc C 1 p, Jc, (tc_R x), tc_S, 289, 11479)) := g.failC (d + 1) 1
  rw [b80_0, g.csN j rfl hj hn, am_call_s, am_toL, b80_6, if_pos rfl, j1, am_call_s, am_toN, b80_25]
theorem c_f71 (g : Gd T n C M J p q k v w) (k4 : k ≠ 4) (hn : ¬ (k = 3 ∧ 25 ≤ v ∧ v ≤ 31)) (a : Int32) (d : Nat) : am_G (am_ev (d + 1)) 103 [.ref 1, .int a] (C, Jc, (tc_R x), tc_S, 289, 11479) = am_call (am_G (am_ev d) 100 [.ref 1, .int 40, .int a] (C, Jc, (tc_R x), tc_S, 289, 11479)) (fun r M => am_ev (d + 1) 103 123 [.ref 1, .int a, .int (C 1 5)] (r.toList ++ []) M) := by
  have n4 : ¬ C 1 4 = 4 := fun z => k4 ((g.ke (j := 4) rfl (by omega)).mp z)
  rw [b103_0, if_neg n4]
  by_cases k3 : k = 3
  · have y3 : C 1 4 = 3 := (g.ke (j := 3) rfl (by omega)).mpr k3
    obtain ⟨v1, v2, _⟩ := g.t3 k3
    have hv : v < 25 := by omega
    rw [if_pos y3, v2, if_pos (show nI v < 25 from nI_lt (b := 25) hv (by omega)), b103_71, if_pos y3, if_neg (fun y => by have := (nI_eq (b := 30) (by omega) (by omega)).mp y; omega), if_neg (fun y => by have := (nI_eq (b := 31) (by omega) (by omega)).mp y; omega)]
  · have n3 : ¬ C 1 4 = 3 := fun z => k3 ((g.ke (j := 3) rfl (by omega)).mp z)
    rw [if_neg n3, b103_71, if_neg n3]
/-- a number, or a word for one -/
theorem leaf (g : Gd T n C M J p q k v w) (hk : k ≠ 0) (hk1 : k ≠ 1) {ph0 : Nat} (b : Fr x o fk ph0 bs la lb m C M) (ho : o ≤ 8) (h61 : M 0 61 = 0) (hla : la ≤ p) (hlb : lb ≤ p) (c c' : Nat × Int) (hq : EqV 1 [c] [c']) (hw : M 0 6 = Int32.ofInt c'.2) {D : Nat} {cl : am_O} (cc : ∀ C2 C3, am_G (am_ev (D + 2)) 76 [.ref 1] (C, Jc, (tc_R x), tc_S, 289, 11479) = some (none, (C2, Jc, (tc_R x), tc_S, 289, 11479)) → am_G (am_ev (D + 2)) 41 [.ref (tc_P (!x) + 33), .int (l_cc c)] (C2, Jc, (tc_R x), tc_S, 289, 11479) = some (none, (C3, Jc, (tc_R x), tc_S, 289, 11479)) → cl = some (none, (C3, Jc, (tc_R x), tc_S, 289, 11479))) (mc : ∀ M2 M4 J4, am_G (am_ev (e + 4)) 173 [.ref 0, .int (nI c'.1), .int (am_u2 M 41 o 0 0 6)] (am_u2 M 41 o 0, J, tm_R, tm_S, 77, 21637) = some (none, (M2, J, tm_R, tm_S, 77, 21637)) → am_G (am_ev (e + 4)) 164 [.ref 0] (M2, J, tm_R, tm_S, 77, 21637) = some (none, (M4, J4, tm_R, tm_S, 77, 21637)) → am_G (am_ev (e + 5)) 180 [.ref 0] (M, J, tm_R, tm_S, 77, 21637) = some (some (.int 1), (M4, J4, tm_R, tm_S, 77, 21637))) (s : Nat) (hs : 1 ≤ s) : Out e x C M J Jc cl (Lp e M J) (Ar T n x o la lb m p ph0 7 s (fun _ _ => True) C M J) := by
  obtain ⟨b51, b57, b58, b39, b40, b43, bC, b50, b60⟩ := b
  have hpq := g.pq hk1
  have hy := tc_P4 (!x)
  have g1 := g.uM (c := 41) (i := o) (by omega) 0
  have tk0 : Tk x o la lb m C M C (am_u2 M 41 o 0) [] [] [] := (Tk.rf bC b50 b60).sm (Sm.rf.uo (Or.inr rfl) 0)
  obtain ⟨M2, a1, a2, a3⟩ := m_ad (J := J) (by rw [u2_c (by omega)]; exact b51) tk0 (by show lb + 0 < 1600; omega) c' (u := nI c'.1) (w := am_u2 M 41 o 0 0 6) rfl (by rw [u2_c (by omega)]; exact hw) (e + 3)
  have g2 : Gd T n C M2 J p q k v w := g1.wr (fun _ _ _ _ => rfl) (fun b hb => a3 _ _ (by omega) (by omega) (by omega)) (fun b => a3 _ _ (by omega) (by omega) (by omega)) rfl
  obtain ⟨C2, M4, J4, e1, e2, f1, f2, f3, f4⟩ := g2.gox hk hk1 (x := x) (Jc := Jc) D (e + 2)
  have hu : C2 (tc_P (!x) + 33) 2 = nI la := by rw [f1 _ _ (fun z => by omega)]; exact bC
  have c3 := c_em0 (x := x) (Jc := Jc) hu (by omega) (l_cc c) (D + 1)
  have t4 : Tk x o la lb m C M (am_u2 (am_u2 C2 (tc_P (!x) + 34) la (l_cc c)) (tc_P (!x) + 33) 2 (nI (la + 1))) (am_u2 M4 0 61 1) [c] [c'] [] := ((a2.cl f1).sm (f2.sm.u0 (j := 61) (by omega) 1)).em c
  have l1 := Lp_op (e := e) (J := J) h61 (s := 1) (Or.inr rfl) (mc M2 M4 J4 a1 e2)
  have fr : ∀ j, j ≠ 50 → 9 < j → M4 0 j = M 0 j := fun j h1 h2 => by rw [f2 _ _ (fun _ => by omega), a3 _ _ (by omega) (by omega) (by omega), u2_c (by omega)]
  refine ⟨_, am_u2 M4 0 61 1, J4, cc _ _ e1 c3, ?_⟩
  rcases f4 with ⟨p2, q2, k2, v2, w2, g4, z1, z2, _⟩ | ⟨bd, _⟩
  · refine Or.inl ⟨l1.1 g4.m8, [c], [c'], [], p2, q2, k2, v2, w2, ⟨?_, f3, t4, ?_, ?_, ?_, u2_s⟩, by show p + 1 ≤ p2; omega, by show p + 1 + 0 ≤ p2; omega, z1, fun c hc => absurd hc (List.not_mem_nil), Nat.zero_le _, hq.mono hs, trivial, by rw [u2_c (by omega), f2 _ _ (fun z => by omega), a3 _ _ (by omega) (by omega) (by omega), u2_s]⟩
    · exact (g4.u0 (by omega) 1).wr (fun a b h1 h2 => by rw [u2_c (by omega), u2_c (by omega)]) (fun _ _ => rfl) (fun _ => rfl) rfl
    · rw [u2_p (by omega), fr _ (by omega) (by omega)]; exact b57
    · rw [u2_p (by omega), fr _ (by omega) (by omega)]; exact b58
    · rw [u2_c (by omega), f2 _ _ (fun z => by omega), a3 _ _ (by omega) (by omega) (by omega), u2_c (by omega)]; exact b40
  · refine Or.inr ⟨l1.2 bd.m8, t4.bdx f3 (bd.wr (fun b => by rw [u2_c (by omega), u2_c (by omega)]) (fun b hb => u2_p (by omega))) (by show la + 1 ≤ 1600; omega)⟩
end LOP
