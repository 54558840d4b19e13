/-! LAWS: the model's steps, one by one (printed by genlaw2.py) -/
noncomputable abbrev Lp (e : Nat) (M : tI) (J : tJ) : am_O := am_ev (e + 6) 182 43 [.ref 0, .int 1, .int 1] [] (M, J, tm_R, tm_S, 77, 21637)
section MST
variable {T : Nat → Nat} {n p q k v o f : Nat} {w : List Nat} {x : Bool} {C M M2 M3 M4 : tI} {J J2 J4 Jc : tJ}
theorem Gd.sY (h : Gd T n C M J p q 5 v w) {c : Int32} (hc : c = nI v) (d : Nat) : am_G (am_ev (d + 1)) 165 [.ref 0, .int c] (M, J, tm_R, tm_S, 77, 21637) = some (some (.int 1), (M, J, tm_R, tm_S, 77, 21637)) := by
  ((try simp only [hc]); rw [h.at5M (h.t5 rfl).1, am_b1 ⟨rfl, rfl⟩])
theorem Gd.sN (h : Gd T n C M J p q k v w) {c : Int32} (j : Nat) (hc : c = nI j) (hj : j ∈ sgs) (hn : ¬ (k = 5 ∧ v = j)) (d : Nat) : am_G (am_ev (d + 1)) 165 [.ref 0, .int c] (M, J, tm_R, tm_S, 77, 21637) = some (some (.int 0), (M, J, tm_R, tm_S, 77, 21637)) := by
  ((try simp only [hc]); rw [h.at5M hj, am_b0 hn])
theorem Gd.wY (h : Gd T n C M J p q 3 v w) {c : Int64} (hc : c = Int64.ofNat (ow8.getD v 0)) (d : Nat) : am_G (am_ev (d + 1)) 166 [.ref 0, .long c] (M, J, tm_R, tm_S, 77, 21637) = some (some (.int 1), (M, J, tm_R, tm_S, 77, 21637)) := by
  rw [h.at3M (h.t3 rfl).1 hc, am_b1 ⟨rfl, rfl⟩]
theorem Gd.wN (h : Gd T n C M J p q k v w) {c : Int64} (j : Nat) (hj : j < 32) (hc : c = Int64.ofNat (ow8.getD j 0)) (hn : ¬ (k = 3 ∧ v = j)) (d : Nat) : am_G (am_ev (d + 1)) 166 [.ref 0, .long c] (M, J, tm_R, tm_S, 77, 21637) = some (some (.int 0), (M, J, tm_R, tm_S, 77, 21637)) := by
  rw [h.at3M hj hc, am_b0 hn]
theorem Gd.csY (h : Gd T n C M J p q 5 v w) {c : Int32} (hc : c = nI v) (d : Nat) : am_G (am_ev (d + 1)) 79 [.ref 1, .int 5, .int c] (C, Jc, (tc_R x), tc_S, 289, 11479) = some (some (.int 1), (C, Jc, (tc_R x), tc_S, 289, 11479)) := by
  ((try simp only [hc]); rw [h.at5C (h.t5 rfl).1, am_b1 ⟨rfl, rfl⟩])
theorem Gd.csN (h : Gd T n C M J p q k v w) {c : Int32} (j : Nat) (hc : c = nI j) (hj : j ∈ sgs) (hn : ¬ (k = 5 ∧ v = j)) (d : Nat) : am_G (am_ev (d + 1)) 79 [.ref 1, .int 5, .int c] (C, Jc, (tc_R x), tc_S, 289, 11479) = some (some (.int 0), (C, Jc, (tc_R x), tc_S, 289, 11479)) := by
  ((try simp only [hc]); rw [h.at5C hj, am_b0 hn])
theorem Gd.cwY (h : Gd T n C M J p q 3 v w) {c : Int32} (hc : c = nI v) (d : Nat) : am_G (am_ev (d + 1)) 79 [.ref 1, .int 3, .int c] (C, Jc, (tc_R x), tc_S, 289, 11479) = some (some (.int 1), (C, Jc, (tc_R x), tc_S, 289, 11479)) := by
  ((try simp only [hc]); rw [h.at3C (h.t3 rfl).1, am_b1 ⟨rfl, rfl⟩])
theorem Gd.cwN (h : Gd T n C M J p q k v w) {c : Int32} (j : Nat) (hc : c = nI j) (hj : j < 32) (hn : ¬ (k = 3 ∧ v = j)) (d : Nat) : am_G (am_ev (d + 1)) 79 [.ref 1, .int 3, .int c] (C, Jc, (tc_R x), tc_S, 289, 11479) = some (some (.int 0), (C, Jc, (tc_R x), tc_S, 289, 11479)) := by
  ((try simp only [hc]); rw [h.at3C hj, am_b0 hn])
theorem Lp_op {e : Nat} (h61 : M 0 61 = 0) {s : Int32} (hs : s = 0 ∨ s = 1) (hc : am_G (am_ev (e + 5)) 180 [.ref 0] (M, J, tm_R, tm_S, 77, 21637) = some (some (.int s), (M2, J2, tm_R, tm_S, 77, 21637))) : (M2 0 8 = 0 → Lp e M J = Lp e (am_u2 M2 0 61 s) J2) ∧ (¬ M2 0 8 = 0 → Lp e M J = some (none, (am_u2 M2 0 61 s, J2, tm_R, tm_S, 77, 21637))) := by
  have e8 : am_u2 M2 0 61 s 0 8 = M2 0 8 := u2_p (by omega)
  have st : Lp e M J = am_ev (e + 6) 182 70 [.ref 0, .int 1, .int 1] [] (am_u2 M2 0 61 s, J2, tm_R, tm_S, 77, 21637) := by
    show am_ev (e + 5 + 1) 182 43 [.ref 0, .int 1, .int 1] [] (M, J, tm_R, tm_S, 77, 21637) = _
    (rw [b182_43, if_neg (by decide : ¬ (1 : Int32) = 0), if_pos h61]; (try simp only [hc]); rw [am_call_s])
    show am_ev (e + 5 + 1) 182 59 [.ref 0, .int 1, .int 1] [.int s, .ref 0] (M2, J2, tm_R, tm_S, 77, 21637) = _
    rw [b182_59, if_pos hs]
  refine ⟨fun z => ?_, fun z => ?_⟩
  · rw [st]
    refine (b182_70 (e + 5) (am_u2 M2 0 61 s) J2 (some (.inr 1)) 1).trans ?_
    rw [if_neg (by decide : ¬ (1 : Int32) = 0), e8, if_pos z]; rfl
  · rw [st]
    refine (b182_70 (e + 5) (am_u2 M2 0 61 s) J2 (some (.inr 1)) 1).trans ?_
    rw [if_neg (by decide : ¬ (1 : Int32) = 0), e8, if_neg z]
    refine (b182_43 (e + 5) (am_u2 M2 0 61 s) J2 _ 0).trans ?_
    rw [if_pos rfl]
theorem Lp_go {e : Nat} (h61 : M 0 61 = 1) {s : Int32} (hc : am_G (am_ev (e + 5)) 181 [.ref 0] (M, J, tm_R, tm_S, 77, 21637) = some (some (.int s), (M2, J2, tm_R, tm_S, 77, 21637))) : (s = 1 → M2 0 8 = 0 → Lp e M J = Lp e M2 J2) ∧ (s = 0 ∨ ¬ M2 0 8 = 0 → Lp e M J = some (none, (M2, J2, tm_R, tm_S, 77, 21637))) := by
  have en : am_ev (e + 6) 182 43 [.ref 0, .int 1, .int 0] [] (M2, J2, tm_R, tm_S, 77, 21637) = some (none, (M2, J2, tm_R, tm_S, 77, 21637)) := by
    refine (b182_43 (e + 5) M2 J2 _ 0).trans ?_
    rw [if_pos rfl]
  have st : Lp e M J = am_ev (e + 6) 182 70 [.ref 0, .int 1, .int s] [] (M2, J2, tm_R, tm_S, 77, 21637) := by
    show am_ev (e + 5 + 1) 182 43 [.ref 0, .int 1, .int 1] [] (M, J, tm_R, tm_S, 77, 21637) = _
    (rw [b182_43, if_neg (by decide : ¬ (1 : Int32) = 0), h61, if_neg (by decide : ¬ (1 : Int32) = 0)]; (try simp only [hc]); rw [am_call_s, am_toL])
    exact b182_69 (e + 5) M2 J2 (some (.inr 1)) _ s
  refine ⟨fun hs z => ?_, fun z => ?_⟩
  · rw [st, hs]
    refine (b182_70 (e + 5) M2 J2 (some (.inr 1)) 1).trans ?_
    rw [if_neg (by decide : ¬ (1 : Int32) = 0), if_pos z]; rfl
  · rw [st]
    refine (b182_70 (e + 5) M2 J2 (some (.inr 1)) s).trans ?_
    by_cases z0 : s = 0
    · rw [if_pos z0]; exact en
    · rw [if_neg z0, if_neg (z.resolve_left z0)]; exact en
theorem m_isT (d : Nat) (I : tI) (J : tJ) (u : Int32) : ∃ s : Int32, am_G (am_ev (d + 1)) 179 [.int u] (I, J, tm_R, tm_S, 77, 21637) = some (some (.int s), (I, J, tm_R, tm_S, 77, 21637)) ∧ ((s = 1 ∧ (u = 1 ∨ u = 5)) ∨ (s = 0 ∧ ¬ u = 1 ∧ ¬ u = 5)) := by
  by_cases z : u = 1
  · exact ⟨1, by rw [b179_0, if_pos z], Or.inl ⟨rfl, Or.inl z⟩⟩
  · by_cases z5 : u = 5
    · exact ⟨1, by rw [b179_0, if_neg z, if_pos z5], Or.inl ⟨rfl, Or.inr z5⟩⟩
    · exact ⟨0, by rw [b179_0, if_neg z, if_neg z5], Or.inr ⟨rfl, z, z5⟩⟩

theorem m_go43 {e : Nat} (g : Gd T n C M J p q 5 43 w) (h57 : M 0 57 = nI (o + 1)) (ho : o ≤ 9) (h40 : M 40 o = nI f) (hf : f ≤ 1) (j1 : am_G (am_ev (e + 4)) 175 [.ref 0, .int 5] (M, J, tm_R, tm_S, 77, 21637) = some (none, (M2, J, tm_R, tm_S, 77, 21637))) (g2 : Gd T n C M2 J p q 5 43 w) (j2 : am_G (am_ev (e + 4)) 176 [.ref 0, .int 10] (M2, J, tm_R, tm_S, 77, 21637) = some (none, (M3, J, tm_R, tm_S, 77, 21637))) (j3 : am_G (am_ev (e + 4)) 164 [.ref 0] (M3, J, tm_R, tm_S, 77, 21637) = some (none, (M4, J4, tm_R, tm_S, 77, 21637))) : am_G (am_ev (e + 5)) 181 [.ref 0] (M, J, tm_R, tm_S, 77, 21637) = some (some (.int 1), (am_u2 M4 0 61 0, J4, tm_R, tm_S, 77, 21637)) := by
  have e57 : M 0 57 - 1 = nI o := by rw [h57]; exact nI_sub (b := 1) (by omega) (by omega)
  have ck : Int32.toNatClampNeg (nI o) = o := nI_clamp (by omega)
  have hi : am_in (nI o) 20 := nI_in (by omega) (by omega)
  obtain ⟨s, t1, t2⟩ := m_isT (e + 3) M J (M 39 o)
  rw [b181_0, e57, if_pos hi]
  (try simp only [ck])
  rw [t1, am_call_s, am_toL, b181_18, if_pos hi]
  (try simp only [ck])
  rw [h40, if_neg (geL (c := 2) 2 rfl (by omega) (by omega)), g.sY (c := 43) rfl, am_call_s, am_toL, b181_35, if_neg (by decide : ¬ (1 : Int32) = 0), g.sY (c := 43) rfl, am_call_s, am_toL, b181_81, if_neg (by decide : ¬ (1 : Int32) = 0), j1, am_call_s, am_toN, b181_102, g2.sY (c := 43) rfl, am_call_s, am_toL, b181_109, if_neg (by decide : ¬ (1 : Int32) = 0), j2, am_call_s, am_toN, b181_164, j3, am_call_s, am_toN, b181_168]
theorem m_go45 {e : Nat} (g : Gd T n C M J p q 5 45 w) (h57 : M 0 57 = nI (o + 1)) (ho : o ≤ 9) (h40 : M 40 o = nI f) (hf : f ≤ 1) (j1 : am_G (am_ev (e + 4)) 175 [.ref 0, .int 5] (M, J, tm_R, tm_S, 77, 21637) = some (none, (M2, J, tm_R, tm_S, 77, 21637))) (g2 : Gd T n C M2 J p q 5 45 w) (j2 : am_G (am_ev (e + 4)) 176 [.ref 0, .int 11] (M2, J, tm_R, tm_S, 77, 21637) = some (none, (M3, J, tm_R, tm_S, 77, 21637))) (j3 : am_G (am_ev (e + 4)) 164 [.ref 0] (M3, J, tm_R, tm_S, 77, 21637) = some (none, (M4, J4, tm_R, tm_S, 77, 21637))) : am_G (am_ev (e + 5)) 181 [.ref 0] (M, J, tm_R, tm_S, 77, 21637) = some (some (.int 1), (am_u2 M4 0 61 0, J4, tm_R, tm_S, 77, 21637)) := by
  have e57 : M 0 57 - 1 = nI o := by rw [h57]; exact nI_sub (b := 1) (by omega) (by omega)
  have ck : Int32.toNatClampNeg (nI o) = o := nI_clamp (by omega)
  have hi : am_in (nI o) 20 := nI_in (by omega) (by omega)
  obtain ⟨s, t1, t2⟩ := m_isT (e + 3) M J (M 39 o)
  rw [b181_0, e57, if_pos hi]
  (try simp only [ck])
  rw [t1, am_call_s, am_toL, b181_18, if_pos hi]
  (try simp only [ck])
  rw [h40, if_neg (geL (c := 2) 2 rfl (by omega) (by omega)), g.sN (c := 43) 43 rfl (by decide) (by omega), am_call_s, am_toL, b181_35, if_pos rfl, g.sY (c := 45) rfl, am_call_s, am_toL, b181_44, if_neg (by decide : ¬ (1 : Int32) = 0), g.sN (c := 43) 43 rfl (by decide) (by omega), am_call_s, am_toL, b181_81, if_pos rfl, g.sY (c := 45) rfl, am_call_s, am_toL, b181_90, if_neg (by decide : ¬ (1 : Int32) = 0), j1, am_call_s, am_toN, b181_102, g2.sN (c := 43) 43 rfl (by decide) (by omega), am_call_s, am_toL, b181_109, if_pos rfl, g2.sY (c := 45) rfl, am_call_s, am_toL, b181_123, if_neg (by decide : ¬ (1 : Int32) = 0), j2, am_call_s, am_toN, b181_164, j3, am_call_s, am_toN, b181_168]
theorem m_go42 {e : Nat} (g : Gd T n C M J p q 5 42 w) (h57 : M 0 57 = nI (o + 1)) (ho : o ≤ 9) (h40 : M 40 o = nI f) (hf : f ≤ 1) (j1 : am_G (am_ev (e + 4)) 175 [.ref 0, .int 6] (M, J, tm_R, tm_S, 77, 21637) = some (none, (M2, J, tm_R, tm_S, 77, 21637))) (g2 : Gd T n C M2 J p q 5 42 w) (j2 : am_G (am_ev (e + 4)) 176 [.ref 0, .int 12] (M2, J, tm_R, tm_S, 77, 21637) = some (none, (M3, J, tm_R, tm_S, 77, 21637))) (j3 : am_G (am_ev (e + 4)) 164 [.ref 0] (M3, J, tm_R, tm_S, 77, 21637) = some (none, (M4, J4, tm_R, tm_S, 77, 21637))) : am_G (am_ev (e + 5)) 181 [.ref 0] (M, J, tm_R, tm_S, 77, 21637) = some (some (.int 1), (am_u2 M4 0 61 0, J4, tm_R, tm_S, 77, 21637)) := by
  have e57 : M 0 57 - 1 = nI o := by rw [h57]; exact nI_sub (b := 1) (by omega) (by omega)
  have ck : Int32.toNatClampNeg (nI o) = o := nI_clamp (by omega)
  have hi : am_in (nI o) 20 := nI_in (by omega) (by omega)
  obtain ⟨s, t1, t2⟩ := m_isT (e + 3) M J (M 39 o)
  rw [b181_0, e57, if_pos hi]
  (try simp only [ck])
  rw [t1, am_call_s, am_toL, b181_18, if_pos hi]
  (try simp only [ck])
  rw [h40, if_neg (geL (c := 2) 2 rfl (by omega) (by omega)), g.sN (c := 43) 43 rfl (by decide) (by omega), am_call_s, am_toL, b181_35, if_pos rfl, g.sN (c := 45) 45 rfl (by decide) (by omega), am_call_s, am_toL, b181_44, if_pos rfl, g.sY (c := 42) rfl, am_call_s, am_toL, b181_53, if_neg (by decide : ¬ (1 : Int32) = 0), g.sN (c := 43) 43 rfl (by decide) (by omega), am_call_s, am_toL, b181_81, if_pos rfl, g.sN (c := 45) 45 rfl (by decide) (by omega), am_call_s, am_toL, b181_90, if_pos rfl, j1, am_call_s, am_toN, b181_102, g2.sN (c := 43) 43 rfl (by decide) (by omega), am_call_s, am_toL, b181_109, if_pos rfl, g2.sN (c := 45) 45 rfl (by decide) (by omega), am_call_s, am_toL, b181_123, if_pos rfl, g2.sY (c := 42) rfl, am_call_s, am_toL, b181_137, if_neg (by decide : ¬ (1 : Int32) = 0), j2, am_call_s, am_toN, b181_164, j3, am_call_s, am_toN, b181_168]
theorem m_go47 {e : Nat} (g : Gd T n C M J p q 5 47 w) (h57 : M 0 57 = nI (o + 1)) (ho : o ≤ 9) (h40 : M 40 o = nI f) (hf : f ≤ 1) (j1 : am_G (am_ev (e + 4)) 175 [.ref 0, .int 6] (M, J, tm_R, tm_S, 77, 21637) = some (none, (M2, J, tm_R, tm_S, 77, 21637))) (g2 : Gd T n C M2 J p q 5 47 w) (j2 : am_G (am_ev (e + 4)) 176 [.ref 0, .int 13] (M2, J, tm_R, tm_S, 77, 21637) = some (none, (M3, J, tm_R, tm_S, 77, 21637))) (j3 : am_G (am_ev (e + 4)) 164 [.ref 0] (M3, J, tm_R, tm_S, 77, 21637) = some (none, (M4, J4, tm_R, tm_S, 77, 21637))) : am_G (am_ev (e + 5)) 181 [.ref 0] (M, J, tm_R, tm_S, 77, 21637) = some (some (.int 1), (am_u2 M4 0 61 0, J4, tm_R, tm_S, 77, 21637)) := by
  have e57 : M 0 57 - 1 = nI o := by rw [h57]; exact nI_sub (b := 1) (by omega) (by omega)
  have ck : Int32.toNatClampNeg (nI o) = o := nI_clamp (by omega)
  have hi : am_in (nI o) 20 := nI_in (by omega) (by omega)
  obtain ⟨s, t1, t2⟩ := m_isT (e + 3) M J (M 39 o)
  rw [b181_0, e57, if_pos hi]
  (try simp only [ck])
  rw [t1, am_call_s, am_toL, b181_18, if_pos hi]
  (try simp only [ck])
  rw [h40, if_neg (geL (c := 2) 2 rfl (by omega) (by omega)), g.sN (c := 43) 43 rfl (by decide) (by omega), am_call_s, am_toL, b181_35, if_pos rfl, g.sN (c := 45) 45 rfl (by decide) (by omega), am_call_s, am_toL, b181_44, if_pos rfl, g.sN (c := 42) 42 rfl (by decide) (by omega), am_call_s, am_toL, b181_53, if_pos rfl, g.sY (c := 47) rfl, am_call_s, am_toL, b181_62, if_neg (by decide : ¬ (1 : Int32) = 0), g.sN (c := 43) 43 rfl (by decide) (by omega), am_call_s, am_toL, b181_81, if_pos rfl, g.sN (c := 45) 45 rfl (by decide) (by omega), am_call_s, am_toL, b181_90, if_pos rfl, j1, am_call_s, am_toN, b181_102, g2.sN (c := 43) 43 rfl (by decide) (by omega), am_call_s, am_toL, b181_109, if_pos rfl, g2.sN (c := 45) 45 rfl (by decide) (by omega), am_call_s, am_toL, b181_123, if_pos rfl, g2.sN (c := 42) 42 rfl (by decide) (by omega), am_call_s, am_toL, b181_137, if_pos rfl, g2.sY (c := 47) rfl, am_call_s, am_toL, b181_151, if_neg (by decide : ¬ (1 : Int32) = 0), j2, am_call_s, am_toN, b181_164, j3, am_call_s, am_toN, b181_168]
theorem m_go37 {e : Nat} (g : Gd T n C M J p q 5 37 w) (h57 : M 0 57 = nI (o + 1)) (ho : o ≤ 9) (h40 : M 40 o = nI f) (hf : f ≤ 1) (j1 : am_G (am_ev (e + 4)) 175 [.ref 0, .int 6] (M, J, tm_R, tm_S, 77, 21637) = some (none, (M2, J, tm_R, tm_S, 77, 21637))) (g2 : Gd T n C M2 J p q 5 37 w) (j2 : am_G (am_ev (e + 4)) 176 [.ref 0, .int 14] (M2, J, tm_R, tm_S, 77, 21637) = some (none, (M3, J, tm_R, tm_S, 77, 21637))) (j3 : am_G (am_ev (e + 4)) 164 [.ref 0] (M3, J, tm_R, tm_S, 77, 21637) = some (none, (M4, J4, tm_R, tm_S, 77, 21637))) : am_G (am_ev (e + 5)) 181 [.ref 0] (M, J, tm_R, tm_S, 77, 21637) = some (some (.int 1), (am_u2 M4 0 61 0, J4, tm_R, tm_S, 77, 21637)) := by
  have e57 : M 0 57 - 1 = nI o := by rw [h57]; exact nI_sub (b := 1) (by omega) (by omega)
  have ck : Int32.toNatClampNeg (nI o) = o := nI_clamp (by omega)
  have hi : am_in (nI o) 20 := nI_in (by omega) (by omega)
  obtain ⟨s, t1, t2⟩ := m_isT (e + 3) M J (M 39 o)
  rw [b181_0, e57, if_pos hi]
  (try simp only [ck])
  rw [t1, am_call_s, am_toL, b181_18, if_pos hi]
  (try simp only [ck])
  rw [h40, if_neg (geL (c := 2) 2 rfl (by omega) (by omega)), g.sN (c := 43) 43 rfl (by decide) (by omega), am_call_s, am_toL, b181_35, if_pos rfl, g.sN (c := 45) 45 rfl (by decide) (by omega), am_call_s, am_toL, b181_44, if_pos rfl, g.sN (c := 42) 42 rfl (by decide) (by omega), am_call_s, am_toL, b181_53, if_pos rfl, g.sN (c := 47) 47 rfl (by decide) (by omega), am_call_s, am_toL, b181_62, if_pos rfl, g.sY (c := 37) rfl, am_call_s, am_toL, b181_71, if_neg (by decide : ¬ (1 : Int32) = 0), g.sN (c := 43) 43 rfl (by decide) (by omega), am_call_s, am_toL, b181_81, if_pos rfl, g.sN (c := 45) 45 rfl (by decide) (by omega), am_call_s, am_toL, b181_90, if_pos rfl, j1, am_call_s, am_toN, b181_102, g2.sN (c := 43) 43 rfl (by decide) (by omega), am_call_s, am_toL, b181_109, if_pos rfl, g2.sN (c := 45) 45 rfl (by decide) (by omega), am_call_s, am_toL, b181_123, if_pos rfl, g2.sN (c := 42) 42 rfl (by decide) (by omega), am_call_s, am_toL, b181_137, if_pos rfl, g2.sN (c := 47) 47 rfl (by decide) (by omega), am_call_s, am_toL, b181_151, if_pos rfl, j2, am_call_s, am_toN, b181_164, j3, am_call_s, am_toN, b181_168]
/-- behind the signs of sums and products -/
theorem m_go175 {e : Nat} (g : Gd T n C M J p q k v w) (h57 : M 0 57 = nI (o + 1)) (ho : o ≤ 9) (h40 : M 40 o = nI f) (hf : f ≤ 2) (hn : f ≤ 1 → ¬ (k = 5 ∧ v = 43) ∧ ¬ (k = 5 ∧ v = 45) ∧ ¬ (k = 5 ∧ v = 42) ∧ ¬ (k = 5 ∧ v = 47) ∧ ¬ (k = 5 ∧ v = 37)) : ∃ s, am_G (am_ev (e + 5)) 181 [.ref 0] (M, J, tm_R, tm_S, 77, 21637) = am_ev (e + 5) 181 175 [.ref 0, .int (nI o), .int (M 39 o), .int s, am_un] [] (M, J, tm_R, tm_S, 77, 21637) ∧ ((s = 1 ∧ (M 39 o = 1 ∨ M 39 o = 5)) ∨ (s = 0 ∧ ¬ M 39 o = 1 ∧ ¬ M 39 o = 5)) := by
  have e57 : M 0 57 - 1 = nI o := by rw [h57]; exact nI_sub (b := 1) (by omega) (by omega)
  have ck : Int32.toNatClampNeg (nI o) = o := nI_clamp (by omega)
  have hi : am_in (nI o) 20 := nI_in (by omega) (by omega)
  obtain ⟨s, t1, t2⟩ := m_isT (e + 3) M J (M 39 o)
  refine ⟨s, ?_, t2⟩
  rw [b181_0, e57, if_pos hi]
  (try simp only [ck])
  rw [t1, am_call_s, am_toL, b181_18, if_pos hi]
  (try simp only [ck])
  by_cases z : f = 2
  · rw [h40, z, if_pos (by decide : (2 : Int32) ≤ nI 2)]
  · obtain ⟨n1, n2, n3, n4, n5⟩ := hn (by omega)
    rw [h40, if_neg (geL (c := 2) 2 rfl (by omega) (by omega)), g.sN (c := 43) 43 rfl (by decide) n1, am_call_s, am_toL, b181_35, if_pos rfl, g.sN (c := 45) 45 rfl (by decide) n2, am_call_s, am_toL, b181_44, if_pos rfl, g.sN (c := 42) 42 rfl (by decide) n3, am_call_s, am_toL, b181_53, if_pos rfl, g.sN (c := 47) 47 rfl (by decide) n4, am_call_s, am_toL, b181_62, if_pos rfl, g.sN (c := 37) 37 rfl (by decide) n5, am_call_s, am_toL, b181_71, if_pos rfl]
theorem m_gc60 {e : Nat} (g : Gd T n C M J p q 5 60 w) (ho : o ≤ 9) (h40 : M 40 o = 0) (u : Int32) (j1 : am_G (am_ev (e + 4)) 175 [.ref 0, .int 5] (M, J, tm_R, tm_S, 77, 21637) = some (none, (M2, J, tm_R, tm_S, 77, 21637))) (g2 : Gd T n C M2 J p q 5 60 w) (j2 : am_G (am_ev (e + 4)) 176 [.ref 0, .int 17] (M2, J, tm_R, tm_S, 77, 21637) = some (none, (M3, J, tm_R, tm_S, 77, 21637))) (j3 : am_G (am_ev (e + 4)) 164 [.ref 0] (am_u2 M3 40 o 1, J, tm_R, tm_S, 77, 21637) = some (none, (M4, J4, tm_R, tm_S, 77, 21637))) : am_ev (e + 5) 181 175 [.ref 0, .int (nI o), .int u, .int 1, am_un] [] (M, J, tm_R, tm_S, 77, 21637) = some (some (.int 1), (am_u2 M4 0 61 0, J4, tm_R, tm_S, 77, 21637)) := by
  have ck : Int32.toNatClampNeg (nI o) = o := nI_clamp (by omega)
  have hi : am_in (nI o) 20 := nI_in (by omega) (by omega)
  rw [b181_175, if_neg (by decide : ¬ (1 : Int32) = 0), if_pos hi]
  (try simp only [ck])
  rw [if_pos h40, g.sY (c := 60) rfl, am_call_s, am_toL, b181_194, if_neg (by decide : ¬ (1 : Int32) = 0), j1, am_call_s, am_toN, b181_220, g2.sY (c := 60) rfl, am_call_s, am_toL, b181_227, if_neg (by decide : ¬ (1 : Int32) = 0), j2, am_call_s, am_toN, b181_254, if_pos hi]
  (try simp only [ck])
  rw [j3, am_call_s, am_toN, b181_265]
theorem m_gc62 {e : Nat} (g : Gd T n C M J p q 5 62 w) (ho : o ≤ 9) (h40 : M 40 o = 0) (u : Int32) (j1 : am_G (am_ev (e + 4)) 175 [.ref 0, .int 5] (M, J, tm_R, tm_S, 77, 21637) = some (none, (M2, J, tm_R, tm_S, 77, 21637))) (g2 : Gd T n C M2 J p q 5 62 w) (j2 : am_G (am_ev (e + 4)) 176 [.ref 0, .int 18] (M2, J, tm_R, tm_S, 77, 21637) = some (none, (M3, J, tm_R, tm_S, 77, 21637))) (j3 : am_G (am_ev (e + 4)) 164 [.ref 0] (am_u2 M3 40 o 1, J, tm_R, tm_S, 77, 21637) = some (none, (M4, J4, tm_R, tm_S, 77, 21637))) : am_ev (e + 5) 181 175 [.ref 0, .int (nI o), .int u, .int 1, am_un] [] (M, J, tm_R, tm_S, 77, 21637) = some (some (.int 1), (am_u2 M4 0 61 0, J4, tm_R, tm_S, 77, 21637)) := by
  have ck : Int32.toNatClampNeg (nI o) = o := nI_clamp (by omega)
  have hi : am_in (nI o) 20 := nI_in (by omega) (by omega)
  rw [b181_175, if_neg (by decide : ¬ (1 : Int32) = 0), if_pos hi]
  (try simp only [ck])
  rw [if_pos h40, g.sN (c := 60) 60 rfl (by decide) (by omega), am_call_s, am_toL, b181_194, if_pos rfl, g.sY (c := 62) rfl, am_call_s, am_toL, b181_203, if_neg (by decide : ¬ (1 : Int32) = 0), j1, am_call_s, am_toN, b181_220, g2.sN (c := 60) 60 rfl (by decide) (by omega), am_call_s, am_toL, b181_227, if_pos rfl, g2.sY (c := 62) rfl, am_call_s, am_toL, b181_241, if_neg (by decide : ¬ (1 : Int32) = 0), j2, am_call_s, am_toN, b181_254, if_pos hi]
  (try simp only [ck])
  rw [j3, am_call_s, am_toN, b181_265]
theorem m_gc61 {e : Nat} (g : Gd T n C M J p q 5 61 w) (ho : o ≤ 9) (h40 : M 40 o = 0) (u : Int32) (j1 : am_G (am_ev (e + 4)) 175 [.ref 0, .int 5] (M, J, tm_R, tm_S, 77, 21637) = some (none, (M2, J, tm_R, tm_S, 77, 21637))) (g2 : Gd T n C M2 J p q 5 61 w) (j2 : am_G (am_ev (e + 4)) 176 [.ref 0, .int 19] (M2, J, tm_R, tm_S, 77, 21637) = some (none, (M3, J, tm_R, tm_S, 77, 21637))) (j3 : am_G (am_ev (e + 4)) 164 [.ref 0] (am_u2 M3 40 o 1, J, tm_R, tm_S, 77, 21637) = some (none, (M4, J4, tm_R, tm_S, 77, 21637))) : am_ev (e + 5) 181 175 [.ref 0, .int (nI o), .int u, .int 1, am_un] [] (M, J, tm_R, tm_S, 77, 21637) = some (some (.int 1), (am_u2 M4 0 61 0, J4, tm_R, tm_S, 77, 21637)) := by
  have ck : Int32.toNatClampNeg (nI o) = o := nI_clamp (by omega)
  have hi : am_in (nI o) 20 := nI_in (by omega) (by omega)
  rw [b181_175, if_neg (by decide : ¬ (1 : Int32) = 0), if_pos hi]
  (try simp only [ck])
  rw [if_pos h40, g.sN (c := 60) 60 rfl (by decide) (by omega), am_call_s, am_toL, b181_194, if_pos rfl, g.sN (c := 62) 62 rfl (by decide) (by omega), am_call_s, am_toL, b181_203, if_pos rfl, g.sY (c := 61) rfl, am_call_s, am_toL, b181_212, if_neg (by decide : ¬ (1 : Int32) = 0), j1, am_call_s, am_toN, b181_220, g2.sN (c := 60) 60 rfl (by decide) (by omega), am_call_s, am_toL, b181_227, if_pos rfl, g2.sN (c := 62) 62 rfl (by decide) (by omega), am_call_s, am_toL, b181_241, if_pos rfl, j2, am_call_s, am_toN, b181_254, if_pos hi]
  (try simp only [ck])
  rw [j3, am_call_s, am_toN, b181_265]
/-- no comparison, or none is due -/
theorem m_go272 {e : Nat} (g : Gd T n C M J p q k v w) (ho : o ≤ 9) (u s : Int32) (hn : s = 0 ∨ ¬ M 40 o = 0 ∨ (¬ (k = 5 ∧ v = 60) ∧ ¬ (k = 5 ∧ v = 62) ∧ ¬ (k = 5 ∧ v = 61))) : am_ev (e + 5) 181 175 [.ref 0, .int (nI o), .int u, .int s, am_un] [] (M, J, tm_R, tm_S, 77, 21637) = am_ev (e + 5) 181 272 [.ref 0, .int (nI o), .int u, .int s, am_un] [] (M, J, tm_R, tm_S, 77, 21637) := by
  have ck : Int32.toNatClampNeg (nI o) = o := nI_clamp (by omega)
  have hi : am_in (nI o) 20 := nI_in (by omega) (by omega)
  rw [b181_175]
  by_cases z : s = 0
  · rw [if_pos z]
  · rw [if_neg z, if_pos hi]
    (try simp only [ck])
    by_cases z2 : M 40 o = 0
    · rcases hn with y | y | ⟨n1, n2, n3⟩
      · exact absurd y z
      · exact absurd z2 y
      · rw [if_pos z2, g.sN (c := 60) 60 rfl (by decide) n1, am_call_s, am_toL, b181_194, if_pos rfl, g.sN (c := 62) 62 rfl (by decide) n2, am_call_s, am_toL, b181_203, if_pos rfl, g.sN (c := 61) 61 rfl (by decide) n3, am_call_s, am_toL, b181_212, if_pos rfl]
    · rw [if_neg z2]
theorem m_goA {e : Nat} (g : Gd T n C M J p q 3 22 w) (ho : o ≤ 9) (h40 : ¬ M 40 o = 0) (u : Int32) (j1 : am_G (am_ev (e + 4)) 175 [.ref 0, .int 2] (M, J, tm_R, tm_S, 77, 21637) = some (none, (M2, J, tm_R, tm_S, 77, 21637))) (j2 : am_G (am_ev (e + 4)) 176 [.ref 0, .int 20] (M2, J, tm_R, tm_S, 77, 21637) = some (none, (M3, J, tm_R, tm_S, 77, 21637))) (j3 : am_G (am_ev (e + 4)) 164 [.ref 0] (am_u2 (am_u2 M3 40 o 0) 41 o 1, J, tm_R, tm_S, 77, 21637) = some (none, (M4, J4, tm_R, tm_S, 77, 21637))) : am_ev (e + 5) 181 272 [.ref 0, .int (nI o), .int u, .int 1, am_un] [] (M, J, tm_R, tm_S, 77, 21637) = some (some (.int 1), (am_u2 M4 0 61 0, J4, tm_R, tm_S, 77, 21637)) := by
  have ck : Int32.toNatClampNeg (nI o) = o := nI_clamp (by omega)
  have hi : am_in (nI o) 20 := nI_in (by omega) (by omega)
  rw [b181_272, if_neg (by decide : ¬ (1 : Int32) = 0), g.wY (c := 6385252) rfl, am_call_s, am_toL, b181_283, if_neg (by decide : ¬ (1 : Int32) = 0), b181_296, if_pos hi]
  (try simp only [ck])
  rw [if_neg h40, b181_314, if_pos (by rw [g.m8]; decide), g.wY (c := 6385252) rfl, am_call_s, am_toL]
  refine (b181_330 (e + 4) M J (nI o) (.int u) (some (.inr 1)) am_un 1).trans ?_
  rw [if_neg (by decide : ¬ (1 : Int32) = 0), j1, am_call_s, am_toN, b181_346, if_neg (by decide : ¬ (1 : Int32) = 0), j2, am_call_s, am_toN, b181_362, if_pos hi, if_pos ⟨hi, Or.inr rfl⟩]
  (try simp only [ck])
  rw [j3, am_call_s, am_toN, b181_380]
theorem m_goO {e : Nat} (g : Gd T n C M J p q 3 21 w) (ho : o ≤ 9) (h40 : ¬ M 40 o = 0) (u : Int32) (j1 : am_G (am_ev (e + 4)) 175 [.ref 0, .int 1] (M, J, tm_R, tm_S, 77, 21637) = some (none, (M2, J, tm_R, tm_S, 77, 21637))) (j2 : am_G (am_ev (e + 4)) 176 [.ref 0, .int 21] (M2, J, tm_R, tm_S, 77, 21637) = some (none, (M3, J, tm_R, tm_S, 77, 21637))) (j3 : am_G (am_ev (e + 4)) 164 [.ref 0] (am_u2 (am_u2 M3 40 o 0) 41 o 1, J, tm_R, tm_S, 77, 21637) = some (none, (M4, J4, tm_R, tm_S, 77, 21637))) : am_ev (e + 5) 181 272 [.ref 0, .int (nI o), .int u, .int 1, am_un] [] (M, J, tm_R, tm_S, 77, 21637) = some (some (.int 1), (am_u2 M4 0 61 0, J4, tm_R, tm_S, 77, 21637)) := by
  have ck : Int32.toNatClampNeg (nI o) = o := nI_clamp (by omega)
  have hi : am_in (nI o) 20 := nI_in (by omega) (by omega)
  rw [b181_272, if_neg (by decide : ¬ (1 : Int32) = 0), g.wN (c := 6385252) 22 (by omega) rfl (by omega), am_call_s, am_toL, b181_283, if_pos rfl, g.wY (c := 28530) rfl, am_call_s, am_toL, b181_293, if_neg (by decide : ¬ (1 : Int32) = 0), b181_296, if_pos hi]
  (try simp only [ck])
  rw [if_neg h40, b181_314, if_pos (by rw [g.m8]; decide), g.wN (c := 6385252) 22 (by omega) rfl (by omega), am_call_s, am_toL]
  refine (b181_330 (e + 4) M J (nI o) (.int u) (some (.inr 1)) am_un 0).trans ?_
  rw [if_pos rfl, j1, am_call_s, am_toN, b181_346, if_pos rfl, j2, am_call_s, am_toN, b181_362, if_pos hi, if_pos ⟨hi, Or.inr rfl⟩]
  (try simp only [ck])
  rw [j3, am_call_s, am_toN, b181_380]
end MST
