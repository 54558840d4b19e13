/-! packing in the model -/
section PM
variable {J : tJ} {W : Nat → Nat} {n sp sh b : Nat}
theorem nI_cmp {S T : Nat} (h : sb T S) : nI S &&& (nI T ^^^ (-1)) = nI (S ^^^ T) := by
  apply Int32.toBitVec_inj.mp
  have e : (nI S &&& (nI T ^^^ (-1))).toBitVec = BitVec.ofNat 32 S &&& (BitVec.ofNat 32 T ^^^ BitVec.allOnes 32) := rfl
  rw [e, nI_bv]
  apply BitVec.eq_of_getLsbD_eq
  intro i hi
  rw [BitVec.getLsbD_and, BitVec.getLsbD_xor, BitVec.getLsbD_ofNat, BitVec.getLsbD_ofNat, BitVec.getLsbD_ofNat, BitVec.getLsbD_allOnes, x_bit h]
  rw [decide_eq_true hi, Bool.true_and, Bool.true_and, Bool.true_and, Bool.xor_true]
theorem bit_r {S i : Nat} (hS : S < 4096) (hi : i < 32) : ((nI S >>> (nI i &&& 31)) &&& 1 = 0) ↔ S.testBit i = false := by
  have o : (1 : Int32) = nI 1 := rfl
  rw [nI_shr S i (by omega) hi, o, nI_and, Nat.and_one_is_mod, Nat.testBit_eq_decide_div_mod_eq, decide_eq_false_iff_not]
  have m := Nat.mod_lt (S / 2 ^ i) (show 0 < 2 by omega)
  constructor
  · intro h w
    have := nI_inj (b := 0) (by omega) (by omega) h
    omega
  · intro h
    rw [show S / 2 ^ i % 2 = 0 by omega]; rfl
/-- what stays while the model packs -/
def pmR (M : tI) (W p : Nat → Nat) (n sp sh b : Nat) : Prop := M 0 12 = nI b ∧ b ≤ 1 ∧ M 30 b = nI sh ∧ M 31 b = nI sp ∧ ∀ j, j < n → M 1 j = nI (p j) ∧ p j < 8 ∧ M 10 (8 * b + p j) = nI (W j)
theorem pmR.fr {M D : tI} {p : Nat → Nat} (h : pmR M W p n sp sh b) (f : ∀ a b, a ≠ 68 → a ≠ 69 → D a b = M a b) : pmR D W p n sp sh b := by
  obtain ⟨h1, h2, h3, h4, h5⟩ := h
  refine ⟨by rw [f _ _ (by omega) (by omega)]; exact h1, h2, by rw [f _ _ (by omega) (by omega)]; exact h3, by rw [f _ _ (by omega) (by omega)]; exact h4, fun j hj => ?_⟩
  rw [f _ _ (by omega) (by omega), f _ _ (by omega) (by omega)]; exact h5 j hj
/-- the subsets of S that hold its lowest -/
theorem m_subs (e : Nat) (x2 : Int32) {p : Nat → Nat} {M : tI} (r : pmR M W p n sp sh b) (n12 : n ≤ 12) (s4 : sh ≤ 400) (p9 : sp ≤ 9) (w9 : ∀ j, W j ≤ 99) {S i0 : Nat} (lS : S < 4096) (hi : S.testBit i0 = true) (hS : ∀ j, S.testBit j = true → j < n) (h68 : ∀ T, T < S → M 68 T = nI (gS (wS W sp) T n) - nI sp) (h69 : ∀ T, T < S → ∃ c, M 69 T = nI c ∧ c ≤ n ∧ opt (wS W sp) n (sh + sp) T c) : ∀ (y : Nat) (D : tI) (v : Nat) (v6 : Value), sb y S → y < S → (∀ a b, ¬ (a = 69 ∧ b = S) → D a b = M a b) → D 69 S = nI v → v ≤ n → ((v = 1 ∧ gS (wS W sp) S n ≤ sh + sp) ∨ v = n ∨ ∃ T, T ≠ 0 ∧ sb T S ∧ gS (wS W sp) T n ≤ sh + sp ∧ v = 1 + Int32.toNatClampNeg (M 69 (S ^^^ T))) → (gS (wS W sp) S n ≤ sh + sp → v ≤ 1) → (∀ T, T.testBit i0 = true → sb T S → T ≠ S → y < T → gS (wS W sp) T n ≤ sh + sp → v ≤ 1 + Int32.toNatClampNeg (M 69 (S ^^^ T))) → ∃ (D' : tI) (v' : Nat) (w5 w6 : Value), am_ev (e + 1) 260 220 [.ref 0, .int (nI n), .int x2, .int (nI S), .int (nI i0), .int (nI y), v6] [] (D, J, tm_R, tm_S, 77, 21637) = am_ev (e + 1) 260 116 [.ref 0, .int (nI n), .int x2, .int (nI (S + 1)), .int (nI i0), w5, w6] [] (D', J, tm_R, tm_S, 77, 21637) ∧ (∀ a b, ¬ (a = 69 ∧ b = S) → D' a b = M a b) ∧ D' 69 S = nI v' ∧ v' ≤ n ∧ ((v' = 1 ∧ gS (wS W sp) S n ≤ sh + sp) ∨ v' = n ∨ ∃ T, T ≠ 0 ∧ sb T S ∧ gS (wS W sp) T n ≤ sh + sp ∧ v' = 1 + Int32.toNatClampNeg (M 69 (S ^^^ T))) ∧ (gS (wS W sp) S n ≤ sh + sp → v' ≤ 1) ∧ ∀ T, T.testBit i0 = true → sb T S → T ≠ S → gS (wS W sp) T n ≤ sh + sp → v' ≤ 1 + Int32.toNatClampNeg (M 69 (S ^^^ T)) := by
  obtain ⟨r1, r2, r3, r4, _⟩ := r
  intro y
  induction y using Nat.strongRecOn with
  | _ y ih =>
    intro D v v6 sy ly fD eD vn v1 v2 v3
    have st := b260_220 e D J (nI n) x2 (nI S) (nI i0) (nI y) v6
    rw [nI_1] at st
    by_cases y0 : y = 0
    · subst y0
      rw [if_pos (show nI 0 ≤ 0 by decide)] at st
      refine ⟨D, v, _, _, st, fD, eD, vn, v1, v2, fun T t1 t2 t3 t4 => v3 T t1 t2 t3 ?_ t4⟩
      have := bit_nz t1
      omega
    · rw [if_neg (show ¬ nI y ≤ 0 from nI_ge (a := 0) (by omega) (by omega))] at st
      have yp : nI y - 1 = nI (y - 1) := nI_sub (b := 1) (by omega) (by omega)
      have le1 : (y - 1) &&& S ≤ y - 1 := Nat.and_le_left
      have ss : sb ((y - 1) &&& S) S := by
        intro j hj
        rw [Nat.testBit_and, Bool.and_eq_true] at hj
        exact hj.2
      rw [yp, nI_and] at st
      by_cases q : y.testBit i0 = true
      · have i0n := hS i0 hi
        rw [if_neg (fun w => by rw [bit_r (by omega) (by omega)] at w; rw [w] at q; cases q)] at st
        have i2 : am_in (nI b) 2 := nI_in (by omega) (by omega)
        have cb : (nI b).toNatClampNeg = b := nI_clamp (by omega)
        have cy : (nI y).toNatClampNeg = y := nI_clamp (by omega)
        have cS : (nI S).toNatClampNeg = S := nI_clamp (by omega)
        have iS : am_in (nI S) 4096 := nI_in lS (by omega)
        have xl := x_lt sy y0
        have cx : (nI (S ^^^ y)).toNatClampNeg = S ^^^ y := nI_clamp (by omega)
        have gy : sp ≤ gS (wS W sp) y n := by
          rw [gS_x (sb_pw q), gS_1, if_pos i0n]; show sp ≤ W i0 + sp + _; omega
        have gb := gS_b (w := wS W sp) (c := 108) (S := y) (fun j => by have := w9 j; show W j + sp ≤ 108; omega) n
        have e68 : D 68 y = nI (gS (wS W sp) y n - sp) := by rw [fD _ _ (by omega), h68 y ly, nI_sub (by omega) gy]
        obtain ⟨c, ec, Int32.toNatClampNeg', _⟩ := h69 _ xl
        have ecD : D 69 (S ^^^ y) = nI c := by rw [fD _ _ (by omega)]; exact ec
        have cM : Int32.toNatClampNeg (M 69 (S ^^^ y)) = c := by rw [ec]; exact nI_clamp (by omega)
        rw [if_pos (nI_in (by omega) (by omega)), fD 0 12 (by omega), r1, if_pos i2] at st
        simp only [cb, cy, cS, nI_cmp sy, cx] at st
        rw [e68, fD 30 b (by omega), r3] at st
        by_cases q2 : gS (wS W sp) y n - sp ≤ sh
        · have o1 : (1 : Int32) + nI c = nI (1 + c) := nI_add 1 c
          rw [if_pos (nI_le q2 (by omega)), if_pos (nI_in (by omega) (by omega)), if_pos iS, eD, ecD, o1] at st
          by_cases q3 : v ≤ 1 + c
          · rw [if_pos (nI_le q3 (by omega)), if_pos iS, if_pos iS] at st
            obtain ⟨D', v', w5, w6, z1, z2⟩ := ih _ (by omega) (am_u2 D 69 S (nI v)) v (.int (nI (1 + c))) ss (by omega) (fun a b z => by rw [fr1 (by omega)]; exact fD a b z) u2_s vn v1 v2 (fun T t1 t2 t3 t4 t5 => by
              by_cases z : y < T
              · exact v3 T t1 t2 t3 z t5
              · by_cases z2 : T = y
                · subst z2; rw [cM]; exact q3
                · have := sub_pred y S T sy t2 (by omega); omega)
            exact ⟨D', v', w5, w6, st.trans z1, z2⟩
          · rw [if_neg (nI_ge (by omega) (by omega)), if_pos iS] at st
            obtain ⟨D', v', w5, w6, z1, z2⟩ := ih _ (by omega) (am_u2 D 69 S (nI (1 + c))) (1 + c) (.int (nI (1 + c))) ss (by omega) (fun a b z => by rw [fr1 (by omega)]; exact fD a b z) u2_s (by omega) (Or.inr (Or.inr ⟨y, y0, sy, by omega, by rw [cM]⟩)) (fun z => by have := v2 z; omega) (fun T t1 t2 t3 t4 t5 => by
              by_cases z : y < T
              · have := v3 T t1 t2 t3 z t5; omega
              · by_cases z2 : T = y
                · subst z2; rw [cM]; exact Nat.le_refl _
                · have := sub_pred y S T sy t2 (by omega); omega)
            exact ⟨D', v', w5, w6, st.trans z1, z2⟩
        · rw [if_neg (nI_ge (by omega) (by omega))] at st
          obtain ⟨D', v', w5, w6, z1, z2⟩ := ih _ (by omega) D v v6 ss (by omega) fD eD vn v1 v2 (fun T t1 t2 t3 t4 t5 => by
              by_cases z : y < T
              · exact v3 T t1 t2 t3 z t5
              · by_cases z2 : T = y
                · subst z2; omega
                · have := sub_pred y S T sy t2 (by omega); omega)
          exact ⟨D', v', w5, w6, st.trans z1, z2⟩
      · have i0n := hS i0 hi
        rw [if_pos ((bit_r (by omega) (by omega)).mpr (Bool.eq_false_iff.mpr q))] at st
        obtain ⟨D', v', w5, w6, z1, z2⟩ := ih _ (by omega) D v v6 ss (by omega) fD eD vn v1 v2 (fun T t1 t2 t3 t4 t5 => by
            by_cases z : y < T
            · exact v3 T t1 t2 t3 z t5
            · by_cases z2 : T = y
              · subst z2; exact absurd t1 q
              · have := sub_pred y S T sy t2 (by omega); omega)
        exact ⟨D', v', w5, w6, st.trans z1, z2⟩
theorem low_ex {S : Nat} (nz : S ≠ 0) : ∃ i, S.testBit i = true ∧ ∀ j, j < i → S.testBit j = false := by
  obtain ⟨k, hk⟩ := nz_bit nz
  cases e : fnd (fun j => S.testBit j) (k + 1) 0 with
  | none => have := fnd_none _ _ e k (by omega) (by omega)
            (try dsimp only at this)
            rw [hk] at this; cases this
  | some i =>
    obtain ⟨_, _, h3, h4⟩ := fnd_some _ _ _ e
    exact ⟨i, h3, fun j hj => h4 j (by omega) hj⟩
/-- one set -/
theorem m_set (e : Nat) (x2 : Int32) (v4 v5 v6 : Value) {p : Nat → Nat} {M : tI} (r : pmR M W p n sp sh b) (n1 : 1 ≤ n) (n12 : n ≤ 12) (s4 : sh ≤ 400) (p9 : sp ≤ 9) (w9 : ∀ j, W j ≤ 99) (hW : ∀ j, j < n → W j ≤ sh) {S : Nat} (nz : S ≠ 0) (lS : S < 2 ^ n) (h68 : ∀ T, T < S → M 68 T = nI (gS (wS W sp) T n) - nI sp) (h69 : ∀ T, T < S → ∃ c, M 69 T = nI c ∧ c ≤ n ∧ opt (wS W sp) n (sh + sp) T c) : ∃ (D : tI) (w4 w5 w6 : Value), am_ev (e + 2) 260 116 [.ref 0, .int (nI n), .int x2, .int (nI S), v4, v5, v6] [] (M, J, tm_R, tm_S, 77, 21637) = am_ev (e + 2) 260 116 [.ref 0, .int (nI n), .int x2, .int (nI (S + 1)), w4, w5, w6] [] (D, J, tm_R, tm_S, 77, 21637) ∧ (∀ a b, ¬ (a = 68 ∧ b = S) → ¬ (a = 69 ∧ b = S) → D a b = M a b) ∧ D 68 S = nI (gS (wS W sp) S n) - nI sp ∧ ∃ c, D 69 S = nI c ∧ c ≤ n ∧ opt (wS W sp) n (sh + sp) S c := by
  have p12 : 2 ^ n ≤ 4096 := Nat.pow_le_pow_right (n := 2) (by omega) n12
  have hS := lt_bits lS
  obtain ⟨i0, hi, hl⟩ := low_ex nz
  have i0n := hS i0 hi
  obtain ⟨r1, r2, r3, r4, r5⟩ := r
  have r : pmR M W p n sp sh b := ⟨r1, r2, r3, r4, r5⟩
  obtain ⟨t1, t2, t3⟩ := r5 i0 i0n
  have low : ∀ k, k ≤ i0 → am_ev (e + 2) 260 126 [.ref 0, .int (nI n), .int x2, .int (nI S), .int (nI 0), v5, v6] [] (M, J, tm_R, tm_S, 77, 21637) = am_ev (e + 2) 260 126 [.ref 0, .int (nI n), .int x2, .int (nI S), .int (nI k), v5, v6] [] (M, J, tm_R, tm_S, 77, 21637) := by
    intro k
    induction k with
    | zero => intro _; rfl
    | succ k ih =>
      intro hk
      rw [ih (by omega), b260_126, if_pos ((bit_r (by omega) (by omega)).mpr (hl k (by omega))), nI_1]
  have i2 : am_in (nI b) 2 := nI_in (by omega) (by omega)
  have cb : (nI b).toNatClampNeg = b := nI_clamp (by omega)
  have cS : (nI S).toNatClampNeg = S := nI_clamp (by omega)
  have iS : am_in (nI S) 4096 := nI_in (by omega) (by omega)
  have sp1 : nI S - 1 = nI (S - 1) := nI_sub (b := 1) (by omega) (by omega)
  have xl := x_lt (sb_pw hi) (pw_nz i0)
  have lb := low_bit i0 S hi hl
  have cx : (nI (S ^^^ 2 ^ i0)).toNatClampNeg = S ^^^ 2 ^ i0 := nI_clamp (by omega)
  have ci : (nI i0).toNatClampNeg = i0 := nI_clamp (by omega)
  have c16 : (nI (8 * b + p i0)).toNatClampNeg = 8 * b + p i0 := nI_clamp (by omega)
  have gx : gS (wS W sp) S n = W i0 + sp + gS (wS W sp) (S ^^^ 2 ^ i0) n := by rw [gS_x (sb_pw hi), gS_1, if_pos i0n]
  have gb := gS_b (w := wS W sp) (c := 108) (S := S) (fun j => by have := w9 j; show W j + sp ≤ 108; omega) n
  have e68 : M 68 (S ^^^ 2 ^ i0) + nI sp + nI (W i0) = nI (gS (wS W sp) S n - sp) := by
    rw [h68 _ xl, Int32.sub_add_cancel, nI_add]
    congr 1
    omega
  have e68' : nI (gS (wS W sp) S n) - nI sp = nI (gS (wS W sp) S n - sp) := nI_sub (by omega) (by omega)
  have i8 : (8 : Int32) * M 0 12 + nI (p i0) = nI (8 * b + p i0) := by rw [r1]; exact nI_ix 8 b _
  have key : ∃ v, am_ev (e + 2) 260 126 [.ref 0, .int (nI n), .int x2, .int (nI S), .int (nI i0), v5, v6] [] (M, J, tm_R, tm_S, 77, 21637) = am_ev (e + 2) 260 220 [.ref 0, .int (nI n), .int x2, .int (nI S), .int (nI i0), .int (nI ((S - 1) &&& S)), v6] [] ((am_u2 (am_u2 M 68 S (nI (gS (wS W sp) S n - sp))) 69 S (nI v)), J, tm_R, tm_S, 77, 21637) ∧ v ≤ n ∧ ((v = 1 ∧ gS (wS W sp) S n ≤ sh + sp) ∨ v = n) ∧ (gS (wS W sp) S n ≤ sh + sp → v ≤ 1) := by
    have st := b260_126 (e + 1) M J (nI n) x2 (nI S) (nI i0) v5 v6
    rw [if_neg (fun w => by rw [bit_r (by omega) (by omega)] at w; rw [w] at hi; cases hi), sp1, nI_and, lb, if_pos (nI_in (by omega) (by omega)), r1, if_pos i2, if_pos (nI_in (by omega) (by omega))] at st
    simp only [cb, cx, ci] at st
    rw [t1, m_part8, i8, am_call_s, am_toL, b260_181, if_pos (nI_in (by omega) (by omega)), if_pos iS, if_pos iS, r1, if_pos i2] at st
    simp only [cb, cS, c16] at st
    rw [t3, r4, e68, u2_s, r3, sp1, nI_and] at st
    by_cases q : sh < gS (wS W sp) S n - sp
    · rw [if_pos (nI_lt q (by omega)), if_pos iS] at st
      exact ⟨n, st, Nat.le_refl _, Or.inr rfl, fun z => by omega⟩
    · rw [if_neg (nI_nlt (by omega) (by omega)), if_pos iS] at st
      exact ⟨1, st, n1, Or.inl ⟨rfl, by omega⟩, fun _ => Nat.le_refl _⟩
  obtain ⟨v, k1, k2, k3, k4⟩ := key
  have le1 : (S - 1) &&& S ≤ S - 1 := Nat.and_le_left
  have fM : ∀ a b', ¬ (a = 68 ∧ b' = S) → am_u2 M 68 S (nI (gS (wS W sp) S n - sp)) a b' = M a b' := fun a b' z => fr1 (by omega)
  have r' : pmR (am_u2 M 68 S (nI (gS (wS W sp) S n - sp))) W p n sp sh b := r.fr (fun a b z _ => fM a b (by omega))
  have f69 : ∀ T, am_u2 M 68 S (nI (gS (wS W sp) S n - sp)) 69 T = M 69 T := fun T => fM 69 T (by omega)
  obtain ⟨D, v', w5, w6, s1, s2, s3, s4', s5, s6, s7⟩ := m_subs (J := J) (e + 1) x2 r' n12 s4 p9 w9 (S := S) (i0 := i0) (by omega) hi hS (fun T hT => by rw [fM 68 T (by omega)]; exact h68 T hT) (fun T hT => by rw [f69]; exact h69 T hT) ((S - 1) &&& S) _ v v6 (fun j hj => by rw [Nat.testBit_and, Bool.and_eq_true] at hj; exact hj.2) (by omega) (fun a b z => fr1 (by omega)) u2_s k2 (k3.imp id Or.inl) k4 (fun T t1 t2 t3 t4 _ => by
    have := sub_pred S S T (sb_rfl S) t2 (Nat.lt_of_le_of_ne (sb_le t2) t3); omega)
  simp only [f69] at s5 s7
  refine ⟨D, .int (nI i0), w5, w6, ?_, fun a b z1 z2 => by rw [s2 a b z2]; exact fM a b z1, ?_, v', s3, s4', ?_⟩
  · rw [b260_116, nI_pw (by omega), if_neg (nI_ge lS (by omega))]
    exact (low i0 (Nat.le_refl _)).trans (k1.trans s1)
  · rw [s2 _ _ (by omega), u2_s, e68']
  · refine md_opt (F := fun T => Int32.toNatClampNeg (M 69 T)) (fun j hj => by have := hW j hj; show W j + sp ≤ sh + sp; omega) hi hS (fun T t1 t2 => ?_) s5 s6 s7
    obtain ⟨c, ec, Int32.toNatClampNeg', o⟩ := h69 _ (x_lt t1 t2)
    have : Int32.toNatClampNeg (M 69 (S ^^^ T)) = c := by rw [ec]; exact nI_clamp (by omega)
    rw [this]; exact o
end PM
