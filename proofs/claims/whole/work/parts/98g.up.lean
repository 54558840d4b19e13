/-! one more of a kind -/
section UPP
variable {T : Nat → Nat} {n lo p q k v la lb : Nat} {w : List Nat} {x y : Bool} {C M C' M' : tI} {J J' Jc : tJ} {N : Nat → Nat}
theorem Sy.c7 (h : Sy T n lo C M J) (h8 : M 0 8 = 0) : C 1 7 = 0 := by
  obtain ⟨p, q, k, v, w, g, _⟩ := h.gd h8
  exact g.c7
theorem Sy.bdd (h : Sy T n lo C M J) (h8 : ¬ M 0 8 = 0) : Bd C M := h.2.2.resolve_left (fun ⟨p', q', k', v', w', g', _⟩ => h8 g'.m8)
theorem upN_l {N : Nat → Nat} {i a q : Nat} (h : a < N i) : a < upN N q i := Nat.lt_of_lt_of_le h (upN_le N q i)
theorem upN_c {N : Nat → Nat} {i k q : Nat} (h : k < upN N q i) : k < N i ∨ (i = q ∧ k = N i) := by
  unfold upN at h
  by_cases e : i = q
  · rw [if_pos e] at h; subst e; omega
  · rw [if_neg e] at h; omega
theorem gCn.up (h : gCn y N C M) {qd : Nat} (hq : qd < 9) (hm : N qd < mxx qd) (hC : ∀ i, i < 9 → C' (tc_P y + 1) i = if i = qd then nI (N qd + 1) else C (tc_P y + 1) i) (hM : ∀ i, i < 9 → M' (cqq i) (xb y) = if i = qd then nI (N qd + 1) else M (cqq i) (xb y)) : gCn y (upN N qd) C' M' := by
  intro i hi
  rw [hC i hi, hM i hi]
  unfold upN
  by_cases e : i = qd
  · subst e
    rw [if_pos rfl, if_pos rfl, if_pos rfl]
    exact ⟨rfl, rfl, by omega⟩
  · rw [if_neg e, if_neg e, if_neg e]
    exact h i hi
theorem PG.up (h : PG y N la lb C M J) {qd : Nat} (hq : qd < 6) (hn : qd < 5 → nmR (C (tc_P y + 3 + qd) (N qd)) (J (jk qd) (kx qd * xb y + N qd)))
    (h0 : qd = 0 → ∃ r s : Nat, C (tc_P y + 8) (N 0) = nI r ∧ C (tc_P y + 9) (N 0) = nI s ∧ M 4 (6 * xb y + N 0) = nI r ∧ M 5 (6 * xb y + N 0) = nI s ∧ r ≤ s ∧ s ≤ 999)
    (h1 : qd = 1 → ∃ a t w : Nat, C (tc_P y + 10) (N 1) = nI a ∧ C (tc_P y + 11) (N 1) = nI t ∧ C (tc_P y + 12) (N 1) = nI w ∧ M 8 (8 * xb y + N 1) = nI a ∧ M 9 (8 * xb y + N 1) = nI t ∧ M 10 (8 * xb y + N 1) = nI w ∧ a < N 0 ∧ 1 ≤ t ∧ t ≤ 99 ∧ 1 ≤ w ∧ w ≤ 99)
    (h2 : qd = 2 → N 2 < 6 ∧ (∃ c : Nat, C (tc_P y + 13) (N 2) = nI c ∧ M 13 (6 * xb y + N 2) = nI c ∧ 1 ≤ c ∧ c ≤ 99) ∧ ∀ o, o < 6 → M 19 (6 * (6 * xb y + N 2) + o) = (if o = N 2 then 0 else 1) ∧ M 19 (6 * (6 * xb y + o) + N 2) = (if o = N 2 then 0 else 1))
    (h4 : qd = 4 → ∃ a t : Nat, C (tc_P y + 28) (N 4) = nI a ∧ C (tc_P y + 29) (N 4) = nI t ∧ M 24 (8 * xb y + N 4) = nI a ∧ M 25 (8 * xb y + N 4) = nI t ∧ a < N 2 ∧ 1 ≤ t ∧ t ≤ 99)
    (h5 : qd = 5 → ∃ a t w : Nat, C (tc_P y + 30) (N 5) = nI a ∧ C (tc_P y + 31) (N 5) = nI t ∧ C (tc_P y + 32) (N 5) = nI w ∧ M 27 (8 * xb y + N 5) = nI a ∧ M 28 (8 * xb y + N 5) = nI t ∧ M 29 (8 * xb y + N 5) = nI w ∧ a < N 2 ∧ 1 ≤ t ∧ t ≤ 60 ∧ w ≤ 9999) : PG y (upN N qd) la lb C M J := by
  obtain ⟨g1, g2, g3, g4, g5, g6, g7, g8, g9, g10⟩ := h
  refine ⟨?_, ?_, ?_, ?_, ?_, ?_, ?_, ?_, g9, ?_⟩
  · intro q k hq5 hk
    rcases upN_c hk with z | ⟨z1, z2⟩
    · exact g1 q k hq5 z
    · subst z1; rw [z2]; exact hn hq5
  · intro k hk
    rcases upN_c hk with z | ⟨z1, z2⟩
    · exact g2 k z
    · rw [z2]; exact h0 z1.symm
  · intro k hk
    rcases upN_c hk with z | ⟨z1, z2⟩
    · obtain ⟨a, t, w, e1, e2, e3, e4, e5, e6, e7, e8⟩ := g3 k z
      exact ⟨a, t, w, e1, e2, e3, e4, e5, e6, upN_l e7, e8⟩
    · obtain ⟨a, t, w, e1, e2, e3, e4, e5, e6, e7, e8⟩ := h1 z1.symm
      rw [z2]
      exact ⟨a, t, w, e1, e2, e3, e4, e5, e6, upN_l e7, e8⟩
  · intro k hk
    rcases upN_c hk with z | ⟨z1, z2⟩
    · exact g4 k z
    · rw [z2]; exact (h2 z1.symm).2.1
  · have e7 : upN N qd 7 = N 7 := upN_o N (by omega)
    unfold gNd
    rw [e7]
    refine ⟨g5.1, fun k hk => ?_, g5.2.2⟩
    obtain ⟨s, q, m, a1, a2, a3, a4, a5, a6⟩ := g5.2.1 k hk
    exact ⟨s, q, m, a1, a2, a3, upN_l a4, upN_l a5, a6⟩
  · refine ⟨fun a c ha hc hh => ?_, fun a c ha hc => ?_⟩
    · have := upN_le N qd 2
      exact g6.1 a c ha hc (by omega)
    · have old : a < N 2 → c < N 2 → ∃ m : Nat, M 19 (6 * (6 * xb y + a) + c) = nI m ∧ m ≤ 99 ∧ (a = c → m = 0) ∧ (a ≠ c → C (tc_P y + 22 + a) c = nI m) := fun p1 p2 => g6.2 a c p1 p2
      rcases upN_c ha with z | ⟨z1, z2⟩
      · rcases upN_c hc with z' | ⟨z1', z2'⟩
        · exact old z z'
        · obtain ⟨n6, _, hh⟩ := h2 z1'.symm
          refine ⟨1, ?_, by omega, fun e => by omega, fun _ => ?_⟩
          · rw [z2', (hh a (by omega)).2, if_neg (by omega)]; rfl
          · rw [g6.1 a c (by omega) (by omega) (by omega)]; rfl
      · obtain ⟨n6, _, hh⟩ := h2 z1.symm
        have hc6 : c < 6 := by
          rcases upN_c hc with z' | ⟨_, z2'⟩ <;> omega
        by_cases e : c = N 2
        · refine ⟨0, ?_, by omega, fun _ => rfl, fun z => absurd (z2.trans e.symm) z⟩
          rw [z2, (hh c hc6).1, if_pos e]; rfl
        · refine ⟨1, ?_, by omega, fun z => absurd (z.symm.trans z2) e, fun _ => ?_⟩
          · rw [z2, (hh c hc6).1, if_neg e]; rfl
          · rw [g6.1 a c (by omega) hc6 (by omega)]; rfl
  · intro k hk
    rcases upN_c hk with z | ⟨z1, z2⟩
    · obtain ⟨a, t, e1, e2, e3, e4, e5, e6⟩ := g7 k z
      exact ⟨a, t, e1, e2, e3, e4, upN_l e5, e6⟩
    · obtain ⟨a, t, e1, e2, e3, e4, e5, e6⟩ := h4 z1.symm
      rw [z2]
      exact ⟨a, t, e1, e2, e3, e4, upN_l e5, e6⟩
  · intro k hk
    rcases upN_c hk with z | ⟨z1, z2⟩
    · obtain ⟨a, t, w, e1, e2, e3, e4, e5, e6, e7, e8⟩ := g8 k z
      exact ⟨a, t, w, e1, e2, e3, e4, e5, e6, upN_l e7, e8⟩
    · obtain ⟨a, t, w, e1, e2, e3, e4, e5, e6, e7, e8⟩ := h5 z1.symm
      rw [z2]
      exact ⟨a, t, w, e1, e2, e3, e4, e5, e6, upN_l e7, e8⟩
  · have e6 : upN N qd 6 = N 6 := upN_o N (by omega)
    unfold gLw
    rw [e6]; exact g10
/-- what a statement does on both sides -/
abbrev Stm (x : Bool) (T : Nat → Nat) (n cm mm p : Nat) (C M : tI) (J Jc : tJ) (d e : Nat) : Prop := ∃ C' M' J', am_G (am_ev (d + 60)) cm [.ref 1] (C, Jc, (tc_R x), tc_S, 289, 11479) = some (none, (C', Jc, (tc_R x), tc_S, 289, 11479)) ∧ am_G (am_ev (e + 10)) mm [.ref 0] (M, J, tm_R, tm_S, 77, 21637) = some (none, (M', J', tm_R, tm_S, 77, 21637)) ∧ RC (!x) C C' ∧ RM (!x) M M' ∧ RJ (!x) J J' ∧ ∃ q', p < q' ∧ Sy T n q' C' M' J' ∧ (M' 0 8 = 0 → ∃ N' la' lb', PL x N' la' lb' C' M' J' ∧ la' ≤ q' ∧ lb' ≤ q')
end UPP
