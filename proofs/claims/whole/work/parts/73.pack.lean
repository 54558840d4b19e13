/-! packing: the class's pair, the model's subsets -/
section PKC
variable {W : Nat → Nat} {n sp sh : Nat}
abbrev wS (W : Nat → Nat) (sp : Nat) : Nat → Nat := fun j => W j + sp
def wth (sp sh v w : Nat) : Nat := if v / 1024 = 0 then 1024 * (v / 1024 + 1) + w else if sh < v % 1024 + sp + w then 1024 * (v / 1024 + 1) + w else v + sp + w
def dpA (W : Nat → Nat) (n sp sh S v : Nat) : Prop := ∃ c f, v = 1024 * c + f ∧ f ≤ sh ∧ 1 ≤ c ∧ c ≤ gS (fun _ => 1) S n ∧ ∃ T, T ≠ 0 ∧ sb T S ∧ gS (wS W sp) T n = f + sp ∧ bk (wS W sp) n (sh + sp) (c - 1) (S ^^^ T)
def dpB (W : Nat → Nat) (n sp sh S v : Nat) : Prop := ∀ k T, T ≠ 0 → sb T S → gS (wS W sp) T n ≤ sh + sp → bk (wS W sp) n (sh + sp) k (S ^^^ T) → v + sp ≤ 1024 * (k + 1) + gS (wS W sp) T n
def dpR (W : Nat → Nat) (n sp sh S v : Nat) : Prop := (S = 0 ∧ v = 0) ∨ (S ≠ 0 ∧ dpA W n sp sh S v ∧ dpB W n sp sh S v)
theorem wth_a {S i d : Nat} (hi : S.testBit i = true) (hn : i < n) (hW : W i ≤ sh) (s4 : sh ≤ 400) (h : dpR W n sp sh (S ^^^ 2 ^ i) d) : dpA W n sp sh S (wth sp sh d (W i)) := by
  have g1 : gS (fun _ => 1) S n = 1 + gS (fun _ => 1) (S ^^^ 2 ^ i) n := by rw [gS_x (sb_pw hi), gS_1, if_pos hn]
  have gw : gS (wS W sp) (2 ^ i) n = W i + sp := by rw [gS_1, if_pos hn]
  unfold wth
  rcases h with ⟨e, rfl⟩ | ⟨ne, ⟨c, f, rfl, hf, hc, hc2, T, t1, t2, t3, t4⟩, _⟩
  · rw [if_pos (by omega)]
    refine ⟨1, W i, by omega, hW, by omega, by omega, 2 ^ i, pw_nz i, sb_pw hi, gw, ?_⟩
    rw [e]; exact bk_z _
  · have d1 : (1024 * c + f) / 1024 = c := by omega
    have d2 : (1024 * c + f) % 1024 = f := by omega
    rw [d1, d2, if_neg (by omega)]
    by_cases q : sh < f + sp + W i
    · rw [if_pos q]
      refine ⟨c + 1, W i, rfl, hW, by omega, by omega, 2 ^ i, pw_nz i, sb_pw hi, gw, ?_⟩
      obtain ⟨c', rfl⟩ : ∃ c', c = c' + 1 := ⟨c - 1, by omega⟩
      exact Or.inr ⟨T, t1, t2, by omega, t4⟩
    · rw [if_neg q]
      have hd : sb (2 ^ i) (S ^^^ T) := by
        refine sb_pw ?_
        have z : T.testBit i = false := by
          refine Bool.eq_false_iff.mpr (fun z => ?_)
          have := t2 i z
          rw [x_bit (sb_pw hi), pw_bit, decide_eq_true rfl] at this
          cases e : S.testBit i <;> rw [e] at this <;> cases this
        rw [Nat.testBit_xor, hi, z]; rfl
      have tS : sb T S := sb_tr t2 (sb_x (sb_pw hi))
      have ti : T.testBit i = false := by
        refine Bool.eq_false_iff.mpr (fun z => ?_)
        have := t2 i z
        rw [x_bit (sb_pw hi), pw_bit, decide_eq_true rfl] at this
        cases e : S.testBit i <;> rw [e] at this <;> cases this
      have U : (T ^^^ 2 ^ i).testBit i = true := by rw [Nat.testBit_xor, ti, pw_bit, decide_eq_true rfl]; rfl
      have back : (T ^^^ 2 ^ i) ^^^ 2 ^ i = T := by rw [Nat.xor_assoc, Nat.xor_self, Nat.xor_zero]
      refine ⟨c, f + sp + W i, by omega, by omega, hc, by omega, T ^^^ 2 ^ i, bit_nz U, fun j hj => ?_, ?_, ?_⟩
      · rw [Nat.testBit_xor, pw_bit] at hj
        by_cases e : i = j
        · subst e; exact hi
        · rw [decide_eq_false e, Bool.xor_false] at hj; exact tS j hj
      · rw [gS_x (sb_pw U), gw, back, t3]; omega
      · have : S ^^^ (T ^^^ 2 ^ i) = S ^^^ 2 ^ i ^^^ T := by rw [Nat.xor_comm T, Nat.xor_assoc]
        rw [this]; exact t4
theorem wth_b {S : Nat} {D : Nat → Nat} (hS : ∀ j, S.testBit j = true → j < n) (s4 : sh ≤ 400) (hD : ∀ i, S.testBit i = true → dpR W n sp sh (S ^^^ 2 ^ i) (D i)) {k T : Nat} (t1 : T ≠ 0) (t2 : sb T S) (t3 : gS (wS W sp) T n ≤ sh + sp) (t4 : bk (wS W sp) n (sh + sp) k (S ^^^ T)) : ∃ i, S.testBit i = true ∧ wth sp sh (D i) (W i) + sp ≤ 1024 * (k + 1) + gS (wS W sp) T n := by
  obtain ⟨i, hiT⟩ := nz_bit t1
  have hi := t2 i hiT
  have hn := hS i hi
  have gw : gS (wS W sp) (2 ^ i) n = W i + sp := by rw [gS_1, if_pos hn]
  have gT : gS (wS W sp) T n = W i + sp + gS (wS W sp) (T ^^^ 2 ^ i) n := by rw [gS_x (sb_pw hiT), gw]
  refine ⟨i, hi, ?_⟩
  unfold wth
  rcases hD i hi with ⟨e, e0⟩ | ⟨ne, ⟨c, f, ed, hf, hc, _⟩, B⟩
  · rw [e0, if_pos (by omega)]; omega
  · have d1 : (1024 * c + f) / 1024 = c := by omega
    have d2 : (1024 * c + f) % 1024 = f := by omega
    rw [ed] at B ⊢
    rw [d1, d2, if_neg (by omega)]
    by_cases eT : T = 2 ^ i
    · subst eT
      have z : gS (wS W sp) (2 ^ i ^^^ 2 ^ i) n = 0 := by rw [Nat.xor_self, gS_0]
      cases k with
      | zero => exact absurd t4 ne
      | succ k =>
        rcases bk_s.mp t4 with y | ⟨U, u1, u2, u3, u4⟩
        · exact absurd y ne
        · have b := B k U u1 u2 u3 u4
          by_cases q : sh < f + sp + W i
          · rw [if_pos q]; omega
          · rw [if_neg q]; omega
    · have n1 : T ^^^ 2 ^ i ≠ 0 := fun w => eT (x_0 w)
      have s1 : sb (T ^^^ 2 ^ i) (S ^^^ 2 ^ i) := by
        intro j hj
        rw [x_bit (sb_pw hiT), Bool.and_eq_true] at hj
        rw [x_bit (sb_pw hi), t2 j hj.1, hj.2]; rfl
      have e2 : (S ^^^ 2 ^ i) ^^^ (T ^^^ 2 ^ i) = S ^^^ T := by
        rw [Nat.xor_comm T, ← Nat.xor_assoc, Nat.xor_assoc S, Nat.xor_self, Nat.xor_zero]
      have b := B k (T ^^^ 2 ^ i) n1 s1 (by omega) (by rw [e2]; exact t4)
      by_cases q : sh < f + sp + W i
      · rw [if_pos q]; omega
      · rw [if_neg q]; omega
theorem dpR_s {S v : Nat} {D : Nat → Nat} (nz : S ≠ 0) (hS : ∀ j, S.testBit j = true → j < n) (hW : ∀ j, j < n → W j ≤ sh) (s4 : sh ≤ 400) (hD : ∀ i, S.testBit i = true → dpR W n sp sh (S ^^^ 2 ^ i) (D i)) (v1 : ∀ i, S.testBit i = true → v ≤ wth sp sh (D i) (W i)) (v2 : v = 1024 * (n + 1) ∨ ∃ i, S.testBit i = true ∧ v = wth sp sh (D i) (W i)) : dpR W n sp sh S v := by
  have A : ∀ i, S.testBit i = true → dpA W n sp sh S (wth sp sh (D i) (W i)) := fun i hi => wth_a hi (hS i hi) (hW i (hS i hi)) s4 (hD i hi)
  refine Or.inr ⟨nz, ?_, fun k T t1 t2 t3 t4 => ?_⟩
  · rcases v2 with e | ⟨i, hi, e⟩
    · obtain ⟨i, hi⟩ := nz_bit nz
      have l := v1 i hi
      obtain ⟨c, f, e1, hf, hc, hc2, _⟩ := A i hi
      have := gS_b (w := fun _ => 1) (c := 1) (S := S) (fun _ => Nat.le_refl _) n
      omega
    · rw [e]; exact A i hi
  · obtain ⟨i, hi, l⟩ := wth_b hS s4 hD t1 t2 t3 t4
    have := v1 i hi
    omega
theorem dpR_o {S v : Nat} (s4 : sh ≤ 400) (nz : S ≠ 0) (h : dpR W n sp sh S v) : opt (wS W sp) n (sh + sp) S (v / 1024) := by
  rcases h with ⟨e, _⟩ | ⟨_, ⟨c, f, rfl, hf, hc, _, T, t1, t2, t3, t4⟩, B⟩
  · exact absurd e nz
  · have d1 : (1024 * c + f) / 1024 = c := by omega
    rw [d1]
    obtain ⟨c', rfl⟩ : ∃ c', c = c' + 1 := ⟨c - 1, by omega⟩
    refine ⟨Or.inr ⟨T, t1, t2, by omega, t4⟩, fun k hk => ?_⟩
    cases k with
    | zero => exact absurd hk nz
    | succ k =>
      rcases bk_s.mp hk with y | ⟨U, u1, u2, u3, u4⟩
      · exact absurd y nz
      · have := B k U u1 u2 u3 u4
        omega
/-- the model's step -/
theorem md_opt {w : Nat → Nat} {L S i0 v : Nat} {F : Nat → Nat} (hw : ∀ j, j < n → w j ≤ L) (hi : S.testBit i0 = true) (hS : ∀ j, S.testBit j = true → j < n) (hF : ∀ T, sb T S → T ≠ 0 → opt w n L (S ^^^ T) (F (S ^^^ T))) (v1 : (v = 1 ∧ gS w S n ≤ L) ∨ v = n ∨ ∃ T, T ≠ 0 ∧ sb T S ∧ gS w T n ≤ L ∧ v = 1 + F (S ^^^ T)) (v2 : gS w S n ≤ L → v ≤ 1) (v3 : ∀ T, T.testBit i0 = true → sb T S → T ≠ S → gS w T n ≤ L → v ≤ 1 + F (S ^^^ T)) : opt w n L S v := by
  have nz := bit_nz hi
  refine ⟨?_, fun k hk => ?_⟩
  · rcases v1 with ⟨rfl, f⟩ | rfl | ⟨T, t1, t2, t3, rfl⟩
    · exact Or.inr ⟨S, nz, sb_rfl S, f, by rw [Nat.xor_self]; exact bk_z _⟩
    · have o := bk_one (L := L) hw v (Nat.le_refl _) S hS
      have l := gS_b (w := fun _ => 1) (c := 1) (S := S) (fun _ => Nat.le_refl _) v
      have := bk_le o (v - gS (fun _ => 1) S v)
      rw [show gS (fun _ => 1) S v + (v - gS (fun _ => 1) S v) = v by omega] at this
      exact this
    · rw [Nat.add_comm]
      exact Or.inr ⟨T, t1, t2, t3, (hF T t2 t1).1⟩
  · cases k with
    | zero => exact absurd hk nz
    | succ k =>
      obtain ⟨T, t1, t2, t3, t4⟩ := bk_ex (i := i0) k S hk hi
      by_cases e : T = S
      · subst e; have := v2 t3; omega
      · have a := v3 T t1 t2 e t3
        have b := (hF T t2 (bit_nz t1)).2 k t4
        omega
theorem sb_h {T S : Nat} (h : sb T S) : sb (T / 2) (S / 2) := fun i hi => by
  have := h (i + 1) (by rw [Nat.testBit_succ]; exact hi)
  rw [Nat.testBit_succ] at this
  exact this
theorem sb_m {T S : Nat} (h : sb T S) : T % 2 ≤ S % 2 := by
  by_cases e : T % 2 = 1
  · have := h 0 (by rw [Nat.testBit_zero, decide_eq_true_eq]; exact e)
    rw [Nat.testBit_zero, decide_eq_true_eq] at this
    omega
  · omega
/-- the next submask below x is (x - 1) &&& S -/
theorem sub_pred : ∀ x S T, sb x S → sb T S → T < x → T ≤ (x - 1) &&& S := by
  intro x
  induction x using Nat.strongRecOn with
  | _ x ih =>
    intro S T hx hT lt
    by_cases e : x % 2 = 1
    · have s : sb (x - 1) S := by
        intro i hi
        cases i with
        | zero => rw [Nat.testBit_zero, decide_eq_true_eq] at hi; omega
        | succ i =>
          rw [Nat.testBit_succ, show (x - 1) / 2 = x / 2 by omega, ← Nat.testBit_succ] at hi
          exact hx _ hi
      rw [sb_and.mp s]; omega
    · have r := ih (x / 2) (by omega) (S / 2) (T / 2) (sb_h hx) (sb_h hT) (by omega)
      have hd : ((x - 1) &&& S) / 2 = (x / 2 - 1) &&& (S / 2) := by
        rw [Nat.and_div_two, show (x - 1) / 2 = x / 2 - 1 by omega]
      have hm : ((x - 1) &&& S) % 2 = S % 2 := by
        have b0 : ((x - 1) &&& S).testBit 0 = S.testBit 0 := by
          rw [Nat.testBit_and, Nat.testBit_zero, decide_eq_true (by omega), Bool.true_and]
        rw [Nat.testBit_zero, Nat.testBit_zero, decide_eq_decide] at b0
        omega
      have := sb_m hT
      omega
/-- the lowest bit goes -/
theorem low_bit : ∀ i S, S.testBit i = true → (∀ j, j < i → S.testBit j = false) → S &&& (S - 1) = S ^^^ 2 ^ i := by
  intro i
  induction i with
  | zero =>
    intro S h _
    rw [Nat.testBit_zero, decide_eq_true_eq] at h
    refine Nat.eq_of_testBit_eq (fun j => ?_)
    rw [Nat.testBit_and, Nat.testBit_xor, pw_bit]
    cases j with
    | zero =>
      rw [Nat.testBit_zero, Nat.testBit_zero, decide_eq_true h, decide_eq_false (by omega), decide_eq_true rfl]; rfl
    | succ j =>
      rw [Nat.testBit_succ, Nat.testBit_succ, show (S - 1) / 2 = S / 2 by omega, decide_eq_false (by omega), Bool.xor_false, Bool.and_self]
  | succ i ih =>
    intro S h hl
    have h0 := hl 0 (by omega)
    rw [Nat.testBit_zero, decide_eq_false_iff_not] at h0
    have nz := bit_nz h
    have r := ih (S / 2) (by rw [← Nat.testBit_succ]; exact h) (fun j hj => by rw [← Nat.testBit_succ]; exact hl (j + 1) (by omega))
    refine Nat.eq_of_testBit_eq (fun j => ?_)
    rw [Nat.testBit_and, Nat.testBit_xor, pw_bit]
    cases j with
    | zero =>
      rw [Nat.testBit_zero, decide_eq_false h0, decide_eq_false (by omega)]; rfl
    | succ j =>
      have c := congrArg (fun z => Nat.testBit z j) r
      try dsimp only at c
      rw [Nat.testBit_and, Nat.testBit_xor, pw_bit] at c
      rw [Nat.testBit_succ, Nat.testBit_succ, show (S - 1) / 2 = S / 2 - 1 by omega, c]
      congr 1
      exact decide_eq_decide.mpr (by omega)
end PKC
