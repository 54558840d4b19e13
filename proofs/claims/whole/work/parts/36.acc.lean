/-! what the relation gives, by names -/
section ACC
variable {x : Bool} {C M : tI} {J : tJ}
theorem Rl.B (h : Rl x C M J) : M 0 12 = nI (xb x) := h.1
theorem Rl.T (h : Rl x C M J) : rl_T C M := h.2.1
theorem Rl.V (h : Rl x C M J) : rl_V C M := h.2.2.2.2.2.2.1
theorem Rl.Ow (h : Rl x C M J) : rl_Ow C := h.2.2.2.2.2.2.2.1
theorem Rl.P (h : Rl x C M J) : rl_P x C M J := h.2.2.2.2.2.2.2.2.1
theorem Rl.H (h : Rl x C M J) : rl_H x C M := h.2.2.2.2.2.2.2.2.2
theorem Rl.Pc (h : Rl x C M J) : rl_Pc x C M := h.P.1
theorem Rl.H0 (h : Rl x C M J) : rl_H0 x C M := h.H.1
theorem Rl.inB (h : Rl x C M J) : am_in (M 0 12) 2 := by rw [h.B]; exact nI_in (by have := xb1 x; omega) (by omega)
theorem Rl.cB (h : Rl x C M J) : (M 0 12).toNatClampNeg = xb x := by rw [h.B]; exact nI_clamp (by have := xb1 x; omega)
theorem Rl.hour (h : Rl x C M J) : C 41 1 = M 0 65 := h.H0.1
theorem Rl.hourB (h : Rl x C M J) : bd (M 0 65) 9999 := h.H0.2.1
theorem Rl.last (h : Rl x C M J) : C 41 2 = M 0 89 := h.H0.2.2.1
theorem Rl.lastB (h : Rl x C M J) : M 0 89 = -1 ∨ bd (M 0 89) 5 ∧ Int32.toNatClampNeg (M 0 89) < Int32.toNatClampNeg (M 11 (xb x)) := h.H0.2.2.2.1
theorem Rl.mnt (h : Rl x C M J) : C 41 3 = M 0 90 := h.H0.2.2.2.2.1
theorem Rl.nb (h : Rl x C M J) : C 41 5 = M 0 66 := h.H0.2.2.2.2.2.1
theorem Rl.nbB (h : Rl x C M J) : bd (M 0 66) 24 := h.H0.2.2.2.2.2.2.1
theorem Rl.nl (h : Rl x C M J) : C 41 7 = M 0 70 := h.H0.2.2.2.2.2.2.2.1
theorem Rl.nlB (h : Rl x C M J) : bd (M 0 70) 40 := h.H0.2.2.2.2.2.2.2.2.1
theorem Rl.nt (h : Rl x C M J) : C 41 10 = M 0 74 := h.H0.2.2.2.2.2.2.2.2.2.1
theorem Rl.ntB (h : Rl x C M J) : bd (M 0 74) 60 := h.H0.2.2.2.2.2.2.2.2.2.2
end ACC
/-- the model's cell of a kind's count, and how many there may be -/
def kc (q : Nat) : Nat := match q with
  | 0 => 2
  | 1 => 6
  | 2 => 11
  | 3 => 20
  | _ => 22
def kx (q : Nat) : Nat := match q with
  | 0 => 6
  | 1 => 8
  | 2 => 6
  | 3 => 4
  | _ => 8
theorem kx8 (q : Nat) : kx q ≤ 8 := by unfold kx; split <;> omega
theorem q5 {q : Nat} (h : q < 5) : q = 0 ∨ q = 1 ∨ q = 2 ∨ q = 3 ∨ q = 4 := by omega
theorem rl_Pc.k {x : Bool} {C M : tI} (h : rl_Pc x C M) {q : Nat} (hq : q < 5) : C (tc_P x + 1) q = M (kc q) (xb x) ∧ bd (M (kc q) (xb x)) (kx q) := by
  rcases q5 hq with rfl | rfl | rfl | rfl | rfl
  · exact h.1
  · exact h.2.1
  · exact h.2.2.1
  · exact h.2.2.2.1
  · exact h.2.2.2.2.1
theorem m_manyOf (d : Nat) (I : tI) (J : tJ) {b q : Nat} (hb : b ≤ 1) (hq : q < 5) : am_G (am_ev (d + 1)) 169 [.ref 0, .int (nI b), .int (nI q)] (I, J, tm_R, tm_S, 77, 21637) = some (some (.int (I (kc q) b)), (I, J, tm_R, tm_S, 77, 21637)) := by
  have hi : am_in (nI b) 2 := nI_in (by omega) (by omega)
  rw [b169_0]
  rcases q5 hq with rfl | rfl | rfl | rfl | rfl
  · (rw [if_pos (by decide : nI 0 = (0 : Int32)), if_pos hi]; (try simp (disch := omega) only [nI_clamp])); rfl
  · (rw [if_neg (by decide : ¬ nI 1 = (0 : Int32)), if_pos (by decide : nI 1 = (1 : Int32)), if_pos hi]; (try simp (disch := omega) only [nI_clamp])); rfl
  · (rw [if_neg (by decide : ¬ nI 2 = (0 : Int32)), if_neg (by decide : ¬ nI 2 = (1 : Int32)), if_pos (by decide : nI 2 = (2 : Int32)), if_pos hi]; (try simp (disch := omega) only [nI_clamp])); rfl
  · (rw [if_neg (by decide : ¬ nI 3 = (0 : Int32)), if_neg (by decide : ¬ nI 3 = (1 : Int32)), if_neg (by decide : ¬ nI 3 = (2 : Int32)), if_pos (by decide : nI 3 = (3 : Int32)), if_pos hi]; (try simp (disch := omega) only [nI_clamp])); rfl
  · (rw [if_neg (by decide : ¬ nI 4 = (0 : Int32)), if_neg (by decide : ¬ nI 4 = (1 : Int32)), if_neg (by decide : ¬ nI 4 = (2 : Int32)), if_neg (by decide : ¬ nI 4 = (3 : Int32)), if_pos hi]; (try simp (disch := omega) only [nI_clamp])); rfl
theorem m_isKind1 (d : Nat) (I : tI) (J : tJ) {b q k : Nat} (hB : I 0 12 = nI b) (hb : b ≤ 1) (hq : q < 5) (hn : bd (I (kc q) b) (kx q)) (hk : k < Int32.toNatClampNeg (I (kc q) b)) : am_G (am_ev (d + 2)) 210 [.ref 0, .int (nI q), .int (nI k)] (I, J, tm_R, tm_S, 77, 21637) = some (some (.int 1), (I, J, tm_R, tm_S, 77, 21637)) := by
  have h8 := kx8 q
  have hc := hn.cl (by omega)
  rw [b210_0, hB, m_manyOf d I J hb hq, am_call_s, am_toL, b210_11, hn.eq (by omega), m_is1 _ _ _ ((is_in (nI k) (n := Int32.toNatClampNeg (I (kc q) b)) (by omega)).mpr ⟨k, hk, rfl⟩), am_call_s, am_toL, b210_16]; rfl
theorem m_isKind0 (d : Nat) (I : tI) (J : tJ) {b q : Nat} {v : Int32} (hB : I 0 12 = nI b) (hb : b ≤ 1) (hq : q < 5) (hn : bd (I (kc q) b) (kx q)) (hv : v < 0 ∨ nI (Int32.toNatClampNeg (I (kc q) b)) ≤ v) : am_G (am_ev (d + 2)) 210 [.ref 0, .int (nI q), .int v] (I, J, tm_R, tm_S, 77, 21637) = some (some (.int 0), (I, J, tm_R, tm_S, 77, 21637)) := by
  have h8 := kx8 q
  have hc := hn.cl (by omega)
  rw [b210_0, hB, m_manyOf d I J hb hq, am_call_s, am_toL, b210_11, hn.eq (by omega), m_is0 _ _ _ (nin (by omega) hv), am_call_s, am_toL, b210_16]; rfl
theorem c_told1 (d : Nat) (I : tI) (J : tJ) (x y : Bool) {q k n : Nat} (hq : q < 9) (hn : I (tc_P y + 1) q = nI n) (h8 : n < 100) (hk : k < n) : am_G (am_ev (d + 1)) 56 [.ref (tc_P y), .int (nI q), .int (nI k)] (I, J, (tc_R x), tc_S, 289, 11479) = some (some (.int 1), (I, J, (tc_R x), tc_S, 289, 11479)) := by
  (rw [b56_0, if_neg (nI_pos (by omega)), if_pos (nI_in hq (by omega))]; (try simp (disch := omega) only [nI_clamp]); rw [hn, if_neg (nI_ge hk (by omega))])
theorem c_told0 (d : Nat) (I : tI) (J : tJ) (x y : Bool) {q n : Nat} {v : Int32} (hq : q < 9) (hn : I (tc_P y + 1) q = nI n) (hv : v < 0 ∨ nI n ≤ v) : am_G (am_ev (d + 1)) 56 [.ref (tc_P y), .int (nI q), .int v] (I, J, (tc_R x), tc_S, 289, 11479) = some (some (.int 0), (I, J, (tc_R x), tc_S, 289, 11479)) := by
  rw [b56_0]
  by_cases h0 : v < 0
  · rw [if_pos h0]
  · (rw [if_neg h0, if_pos (nI_in hq (by omega))]; (try simp (disch := omega) only [nI_clamp]); rw [hn, if_pos (hv.resolve_left h0)])
/-- an index of a kind: told, or wrong on both sides -/
theorem Rl.kind {x : Bool} {C M : tI} {J Jc : tJ} (h : Rl x C M J) {q : Nat} (hq : q < 5) (v : Int32) (d e : Nat) :
    (am_G (am_ev (d + 1)) 56 [.ref (tc_P x), .int (nI q), .int v] (C, Jc, (tc_R x), tc_S, 289, 11479) = some (some (.int 0), (C, Jc, (tc_R x), tc_S, 289, 11479)) ∧ am_G (am_ev (e + 2)) 210 [.ref 0, .int (nI q), .int v] (M, J, tm_R, tm_S, 77, 21637) = some (some (.int 0), (M, J, tm_R, tm_S, 77, 21637))) ∨
    ∃ k, k < Int32.toNatClampNeg (M (kc q) (xb x)) ∧ v = nI k ∧ k < kx q ∧ am_G (am_ev (d + 1)) 56 [.ref (tc_P x), .int (nI q), .int v] (C, Jc, (tc_R x), tc_S, 289, 11479) = some (some (.int 1), (C, Jc, (tc_R x), tc_S, 289, 11479)) ∧ am_G (am_ev (e + 2)) 210 [.ref 0, .int (nI q), .int v] (M, J, tm_R, tm_S, 77, 21637) = some (some (.int 1), (M, J, tm_R, tm_S, 77, 21637)) := by
  obtain ⟨h1, h2⟩ := h.Pc.k hq
  have h8 := kx8 q
  have hc := h2.cl (by omega)
  have hx := xb1 x
  rw [h2.eq (by omega)] at h1
  rcases i_cases v (n := Int32.toNatClampNeg (M (kc q) (xb x))) (by omega) with w | ⟨k, hk, rfl⟩
  · exact Or.inl ⟨c_told0 d C Jc x x (by omega) h1 w, m_isKind0 e M J h.B hx hq h2 w⟩
  · exact Or.inr ⟨k, hk, rfl, by omega, c_told1 d C Jc x x (by omega) h1 (by omega) hk, m_isKind1 e M J h.B hx hq h2 hk⟩
/-- an index of a batch, a lot, a tyre -/
theorem Rl.ba {x : Bool} {C M : tI} {J Jc : tJ} (h : Rl x C M J) (v : Int32) (d e : Nat) :
    (am_G (am_ev (d + 1)) 10 [.ref 41, .int v] (C, Jc, (tc_R x), tc_S, 289, 11479) = some (some (.int 0), (C, Jc, (tc_R x), tc_S, 289, 11479)) ∧ am_G (am_ev (e + 2)) 211 [.ref 0, .int v] (M, J, tm_R, tm_S, 77, 21637) = some (some (.int 0), (M, J, tm_R, tm_S, 77, 21637))) ∨
    ∃ k, k < Int32.toNatClampNeg (M 0 66) ∧ v = nI k ∧ k < 24 ∧ am_G (am_ev (d + 1)) 10 [.ref 41, .int v] (C, Jc, (tc_R x), tc_S, 289, 11479) = some (some (.int 1), (C, Jc, (tc_R x), tc_S, 289, 11479)) ∧ am_G (am_ev (e + 2)) 211 [.ref 0, .int v] (M, J, tm_R, tm_S, 77, 21637) = some (some (.int 1), (M, J, tm_R, tm_S, 77, 21637)) := by
  have hc := h.nbB.cl (by omega)
  have he := h.nbB.eq (by omega)
  rcases i_cases v (n := Int32.toNatClampNeg (M 0 66)) (by omega) with w | ⟨k, hk, rfl⟩
  · refine Or.inl ⟨?_, ?_⟩
    · rw [b10_0, h.nb]
      by_cases h0 : v < 0
      · rw [if_pos h0]
      · rw [if_neg h0, he, if_pos (w.resolve_left h0)]
    · rw [b211_0, he, m_is0 _ _ _ (nin (by omega) w), am_call_s, am_toL, b211_11]; rfl
  · refine Or.inr ⟨k, hk, rfl, by omega, ?_, ?_⟩
    · rw [b10_0, h.nb, if_neg (nI_pos (by omega)), he, if_neg (nI_ge hk (by omega))]
    · rw [b211_0, he, m_is1 _ _ _ ((is_in (nI k) (n := Int32.toNatClampNeg (M 0 66)) (by omega)).mpr ⟨k, hk, rfl⟩), am_call_s, am_toL, b211_11]; rfl
theorem Rl.ty {x : Bool} {C M : tI} {J Jc : tJ} (h : Rl x C M J) (v : Int32) (d e : Nat) :
    (am_G (am_ev (d + 1)) 19 [.ref 41, .int v] (C, Jc, (tc_R x), tc_S, 289, 11479) = some (some (.int 0), (C, Jc, (tc_R x), tc_S, 289, 11479)) ∧ am_G (am_ev (e + 2)) 213 [.ref 0, .int v] (M, J, tm_R, tm_S, 77, 21637) = some (some (.int 0), (M, J, tm_R, tm_S, 77, 21637))) ∨
    ∃ k, k < Int32.toNatClampNeg (M 0 74) ∧ v = nI k ∧ k < 60 ∧ am_G (am_ev (d + 1)) 19 [.ref 41, .int v] (C, Jc, (tc_R x), tc_S, 289, 11479) = some (some (.int 1), (C, Jc, (tc_R x), tc_S, 289, 11479)) ∧ am_G (am_ev (e + 2)) 213 [.ref 0, .int v] (M, J, tm_R, tm_S, 77, 21637) = some (some (.int 1), (M, J, tm_R, tm_S, 77, 21637)) := by
  have hc := h.ntB.cl (by omega)
  have he := h.ntB.eq (by omega)
  rcases i_cases v (n := Int32.toNatClampNeg (M 0 74)) (by omega) with w | ⟨k, hk, rfl⟩
  · refine Or.inl ⟨?_, ?_⟩
    · rw [b19_0, h.nt]
      by_cases h0 : v < 0
      · rw [if_pos h0]
      · rw [if_neg h0, he, if_pos (w.resolve_left h0)]
    · rw [b213_0, he, m_is0 _ _ _ (nin (by omega) w), am_call_s, am_toL, b213_11]; rfl
  · refine Or.inr ⟨k, hk, rfl, by omega, ?_, ?_⟩
    · rw [b19_0, h.nt, if_neg (nI_pos (by omega)), he, if_neg (nI_ge hk (by omega))]
    · rw [b213_0, he, m_is1 _ _ _ ((is_in (nI k) (n := Int32.toNatClampNeg (M 0 74)) (by omega)).mpr ⟨k, hk, rfl⟩), am_call_s, am_toL, b213_11]; rfl
theorem Rl.lo {x : Bool} {C M : tI} {J : tJ} (h : Rl x C M J) (v : Int32) (e : Nat) :
    ((v < 0 ∨ ¬ v < C 41 7) ∧ am_G (am_ev (e + 2)) 212 [.ref 0, .int v] (M, J, tm_R, tm_S, 77, 21637) = some (some (.int 0), (M, J, tm_R, tm_S, 77, 21637))) ∨
    ∃ k, k < Int32.toNatClampNeg (M 0 70) ∧ v = nI k ∧ k < 40 ∧ v < C 41 7 ∧ am_G (am_ev (e + 2)) 212 [.ref 0, .int v] (M, J, tm_R, tm_S, 77, 21637) = some (some (.int 1), (M, J, tm_R, tm_S, 77, 21637)) := by
  have hc := h.nlB.cl (by omega)
  have he := h.nlB.eq (by omega)
  rcases i_cases v (n := Int32.toNatClampNeg (M 0 70)) (by omega) with w | ⟨k, hk, rfl⟩
  · refine Or.inl ⟨?_, ?_⟩
    · rw [h.nl]
      rcases w with w | w
      · exact Or.inl w
      · rw [← he] at w
        exact Or.inr (Int32.not_lt.mpr w)
    · rw [b212_0, he, m_is0 _ _ _ (nin (by omega) w), am_call_s, am_toL, b212_11]; rfl
  · refine Or.inr ⟨k, hk, rfl, by omega, ?_, ?_⟩
    · rw [h.nl, he]; exact nI_lt hk (by omega)
    · rw [b212_0, he, m_is1 _ _ _ ((is_in (nI k) (n := Int32.toNatClampNeg (M 0 70)) (by omega)).mpr ⟨k, hk, rfl⟩), am_call_s, am_toL, b212_11]; rfl
