/-! WORDS: both codes of a word, own words -/
theorem e5_lt : ∀ w : List Nat, (∀ a ∈ w, 1 ≤ a ∧ a ≤ 26) → e5 w < 32 ^ w.length := by
  intro w
  induction w with
  | nil => intro _; exact Nat.one_pos
  | cons a w ih =>
    intro h
    have h1 := h a (List.mem_cons_self ..)
    have h2 := ih (fun b hb => h b (List.mem_cons_of_mem _ hb))
    have e : e5 (a :: w) = a + 32 * e5 w := rfl
    have e2 : 32 ^ (a :: w).length = 32 ^ w.length * 32 := Nat.pow_succ ..
    rw [e, e2]; omega
theorem e5_app : ∀ (w : List Nat) (a : Nat), e5 (w ++ [a]) = e5 w + a * 32 ^ w.length := by
  intro w a
  induction w with
  | nil => show a + 32 * 0 = 0 + a * 1; omega
  | cons b w ih =>
    have e : e5 (b :: w ++ [a]) = b + 32 * e5 (w ++ [a]) := rfl
    have e1 : e5 (b :: w) = b + 32 * e5 w := rfl
    have e2 : 32 ^ (b :: w).length = 32 ^ w.length * 32 := Nat.pow_succ ..
    rw [e, ih, e1, e2, Nat.mul_add, Nat.mul_comm 32 (a * 32 ^ w.length), Nat.mul_assoc a, Nat.add_assoc]
theorem e8f_app : ∀ (w : List Nat) (c a : Nat), e8f c (w ++ [a]) = 256 * e8f c w + (96 + a) := by
  intro w
  induction w with
  | nil => intro c a; rfl
  | cons b w ih => intro c a; exact ih _ a
theorem e8_app (w : List Nat) (a : Nat) : e8 (w ++ [a]) = 256 * e8 w + (96 + a) := e8f_app w 0 a
theorem e8f_ge : ∀ (w : List Nat) (c : Nat), c * 256 ^ w.length ≤ e8f c w := by
  intro w
  induction w with
  | nil => intro c; exact Nat.le_of_eq (Nat.mul_one c)
  | cons b w ih =>
    intro c
    have h1 := ih (256 * c + (96 + b))
    have e2 : 256 ^ (b :: w).length = 256 ^ w.length * 256 := Nat.pow_succ ..
    have e : e8f c (b :: w) = e8f (256 * c + (96 + b)) w := rfl
    rw [e, e2]
    refine Nat.le_trans ?_ h1
    rw [← Nat.mul_assoc, Nat.mul_right_comm]
    exact Nat.mul_le_mul_right _ (by omega)
theorem e8_lt : ∀ w : List Nat, (∀ a ∈ w, 1 ≤ a ∧ a ≤ 26) → ∀ c, e8f c w < (c + 1) * 256 ^ w.length := by
  intro w
  induction w with
  | nil => intro _ c; show c < (c + 1) * 1; omega
  | cons b w ih =>
    intro h c
    have hb := h b (List.mem_cons_self ..)
    have h1 := ih (fun a ha => h a (List.mem_cons_of_mem _ ha)) (256 * c + (96 + b))
    have e2 : 256 ^ (b :: w).length = 256 ^ w.length * 256 := Nat.pow_succ ..
    have e : e8f c (b :: w) = e8f (256 * c + (96 + b)) w := rfl
    rw [e, e2]
    refine Nat.lt_of_lt_of_le h1 ?_
    rw [← Nat.mul_assoc, Nat.mul_right_comm]
    exact Nat.mul_le_mul_right _ (by omega)
theorem e8_b {w : List Nat} (h : ∀ a ∈ w, 1 ≤ a ∧ a ≤ 26) (hl : w.length ≤ 6) : e8 w < 2 ^ 48 := by
  have h1 := e8_lt w h 0
  have h2 : 256 ^ w.length ≤ 256 ^ 6 := Nat.pow_le_pow_right (by omega) hl
  have e : (256 : Nat) ^ 6 = 2 ^ 48 := by decide +kernel
  have e' : e8 w = e8f 0 w := rfl
  omega
theorem e5_b {w : List Nat} (h : ∀ a ∈ w, 1 ≤ a ∧ a ≤ 26) (hl : w.length ≤ 6) : e5 w < 2 ^ 30 := by
  have h1 := e5_lt w h
  have h2 : 32 ^ w.length ≤ 32 ^ 6 := Nat.pow_le_pow_right (by omega) hl
  have e : (32 : Nat) ^ 6 = 2 ^ 30 := by decide +kernel
  omega
theorem e5_inj : ∀ w v : List Nat, (∀ a ∈ w, 1 ≤ a ∧ a ≤ 26) → (∀ a ∈ v, 1 ≤ a ∧ a ≤ 26) → e5 w = e5 v → w = v := by
  intro w
  induction w with
  | nil =>
    intro v _ hv he
    cases v with
    | nil => rfl
    | cons b v =>
      have := hv b (List.mem_cons_self ..)
      have e : e5 (b :: v) = b + 32 * e5 v := rfl
      have e0 : e5 [] = 0 := rfl
      omega
  | cons a w ih =>
    intro v hw hv he
    have h1 := hw a (List.mem_cons_self ..)
    have e1 : e5 (a :: w) = a + 32 * e5 w := rfl
    cases v with
    | nil => have e0 : e5 [] = 0 := rfl
             omega
    | cons b v =>
      have h2 := hv b (List.mem_cons_self ..)
      have e : e5 (b :: v) = b + 32 * e5 v := rfl
      have e3 : a = b := by omega
      have e4 : e5 w = e5 v := by omega
      rw [e3, ih v (fun c hc => hw c (List.mem_cons_of_mem _ hc)) (fun c hc => hv c (List.mem_cons_of_mem _ hc)) e4]
/-- the other code from behind -/
def e8r : List Nat → Nat
  | [] => 0
  | a :: w => 256 * e8r w + (96 + a)
theorem e8_r : ∀ w : List Nat, e8 w = e8r w.reverse := by
  intro w
  have key : ∀ v : List Nat, e8 v.reverse = e8r v := by
    intro v
    induction v with
    | nil => rfl
    | cons a v ih => rw [List.reverse_cons, e8_app, ih]; rfl
  rw [← key w.reverse, List.reverse_reverse]
theorem e8r_inj : ∀ w v : List Nat, (∀ a ∈ w, 1 ≤ a ∧ a ≤ 26) → (∀ a ∈ v, 1 ≤ a ∧ a ≤ 26) → e8r w = e8r v → w = v := by
  intro w
  induction w with
  | nil =>
    intro v _ hv he
    cases v with
    | nil => rfl
    | cons b v =>
      have e : e8r (b :: v) = 256 * e8r v + (96 + b) := rfl
      have e0 : e8r [] = 0 := rfl
      omega
  | cons a w ih =>
    intro v hw hv he
    have h1 := hw a (List.mem_cons_self ..)
    have e1 : e8r (a :: w) = 256 * e8r w + (96 + a) := rfl
    cases v with
    | nil => have e0 : e8r [] = 0 := rfl
             omega
    | cons b v =>
      have h2 := hv b (List.mem_cons_self ..)
      have e : e8r (b :: v) = 256 * e8r v + (96 + b) := rfl
      have e3 : a = b := by omega
      have e4 : e8r w = e8r v := by omega
      rw [e3, ih v (fun c hc => hw c (List.mem_cons_of_mem _ hc)) (fun c hc => hv c (List.mem_cons_of_mem _ hc)) e4]
theorem e8_inj {w v : List Nat} (hw : ∀ a ∈ w, 1 ≤ a ∧ a ≤ 26) (hv : ∀ a ∈ v, 1 ≤ a ∧ a ≤ 26) (h : e8 w = e8 v) : w = v := by
  rw [e8_r, e8_r] at h
  have := e8r_inj w.reverse v.reverse (fun a ha => hw a (List.mem_reverse.mp ha)) (fun a ha => hv a (List.mem_reverse.mp ha)) h
  exact List.reverse_inj.mp this
/-- own words by their places -/
def ows : List (List Nat) := [[13, 9, 24], [18, 9, 16, 5], [19, 20, 1, 12, 5], [16, 1, 18, 20], [15, 6], [20, 1, 11, 5, 19], [23, 9, 4, 5], [19, 9, 26, 5], [3, 21, 18, 5, 19], [14, 5, 5, 4, 19], [3, 8, 1, 14, 7, 5], [16, 18, 5, 19, 19], [13, 15, 21, 12, 4], [12, 9, 22, 5, 19], [15, 18, 4, 5, 18], [2, 25], [19, 8, 5, 5, 20], [19, 16, 12, 9, 3, 5], [18, 5, 19, 20, 19], [2, 1, 4], [23, 8, 5, 14], [15, 18], [1, 14, 4], [14, 15, 20], [1, 12, 12], [15, 12, 4], [23, 15, 18, 14], [1, 20], [11, 9, 14, 4], [12, 1, 25], [13, 9, 14], [13, 1, 24]]
def ow (k : Nat) : List Nat := ows.getD k []
theorem ow_5 : ∀ k, k < 32 → e5 (ow k) = rl_own.getD k 0 := by decide +kernel
theorem ow_ok : ∀ k, k < 32 → 1 ≤ (ow k).length ∧ (ow k).length ≤ 6 ∧ ∀ a ∈ ow k, 1 ≤ a ∧ a ≤ 26 := by decide +kernel
theorem ow_inj : ∀ k, k < 32 → ∀ l, l < 32 → ow k = ow l → k = l := by decide +kernel
def own (w : List Nat) : Prop := ∃ k, k < 32 ∧ w = ow k
def ow8 : List Nat := [7170424, 1919512677, 495873780837, 1885434484, 28518, 499850634611, 2003395685, 1936292453, 427172193651, 474147546227, 109299962373989, 482955588467, 470021401700, 465625834867, 478660552050, 25209, 495672714612, 126926692377445, 491328337011, 6447460, 2003330414, 28530, 6385252, 7237492, 6384748, 7302244, 2003792494, 24948, 1802071652, 7102841, 7170414, 7168376]
theorem ow_8 : ∀ k, k < 32 → e8 (ow k) = ow8.getD k 0 := by decide +kernel
theorem i64_n {a b : Nat} (ha : a < 2 ^ 63) (hb : b < 2 ^ 63) (h : Int64.ofNat a = Int64.ofNat b) : a = b := by
  have h1 : (Int64.ofNat a).toBitVec = (Int64.ofNat b).toBitVec := by rw [h]
  have h2 : BitVec.ofNat 64 a = BitVec.ofNat 64 b := h1
  have h3 : (BitVec.ofNat 64 a).toNat = (BitVec.ofNat 64 b).toNat := by rw [h2]
  rw [BitVec.toNat_ofNat, BitVec.toNat_ofNat] at h3
  omega
theorem lg_eq (a b : Int64) : lg_cmp a b = 0 ↔ a = b := by
  unfold lg_cmp
  by_cases h : a > b
  · rw [if_pos h]
    refine ⟨fun q => absurd q (by decide), fun q => ?_⟩
    subst q
    exact absurd h (Int64.lt_irrefl)
  · rw [if_neg h]
    by_cases e : a = b
    · rw [if_pos e]; exact ⟨fun _ => e, fun _ => rfl⟩
    · rw [if_neg e]; exact ⟨fun q => absurd q (by decide), fun q => absurd q e⟩
theorem w_cmp {w v : List Nat} (hw : wdOK w) (hv : wdOK v) : lg_cmp (Int64.ofNat (e8 w)) (Int64.ofNat (e8 v)) = 0 ↔ w = v := by
  rw [lg_eq]
  constructor
  · intro h
    have h1 := e8_b hw.2.2 hw.2.1
    have h2 := e8_b hv.2.2 hv.2.1
    exact e8_inj hw.2.2 hv.2.2 (i64_n (by omega) (by omega) h)
  · intro h; rw [h]
theorem ow_wd {k : Nat} (h : k < 32) : wdOK (ow k) := ow_ok k h
/-- a word against an own one -/
theorem w_own {w : List Nat} (hw : wdOK w) {k : Nat} (hk : k < 32) {c : Int64} (hc : c = Int64.ofNat (ow8.getD k 0)) : lg_cmp (Int64.ofNat (e8 w)) c = 0 ↔ w = ow k := by
  ((try simp only [hc]); rw [← ow_8 k hk])
  exact w_cmp hw (ow_wd hk)
def wOc : List Int64 := [7170424, 1919512677, 495873780837, 1885434484, 28518, 499850634611, 2003395685, 1936292453, 427172193651, 474147546227, 109299962373989, 482955588467, 470021401700, 465625834867, 478660552050, 25209, 495672714612, 126926692377445, 491328337011, 6447460, 2003330414, 28530, 6385252, 7237492, 6384748, 7302244, 2003792494, 24948, 1802071652, 7102841, 7170414, 7168376]
theorem wOc_e : ∀ k, k < 32 → wOc.getD k 0 = Int64.ofNat (ow8.getD k 0) := by decide +kernel
/-- the chain of comparisons as a search through a list -/
def cmpc {α : Type} (y : Int64) (a b : α) : List Int64 → α
  | [] => b
  | c :: l => if lg_cmp y c = 0 then a else cmpc y a b l
theorem cmpc_t {α : Type} (y : Int64) (a b : α) : ∀ l : List Int64, (∃ c ∈ l, lg_cmp y c = 0) → cmpc y a b l = a := by
  intro l
  induction l with
  | nil => intro h; obtain ⟨c, hc, _⟩ := h; cases hc
  | cons c l ih =>
    intro h
    show (if lg_cmp y c = 0 then a else cmpc y a b l) = a
    by_cases q : lg_cmp y c = 0
    · rw [if_pos q]
    · rw [if_neg q]
      obtain ⟨e, he, h2⟩ := h
      rcases List.mem_cons.mp he with r | r
      · rw [r] at h2; exact absurd h2 q
      · exact ih ⟨e, r, h2⟩
theorem cmpc_f {α : Type} (y : Int64) (a b : α) : ∀ l : List Int64, (∀ c ∈ l, ¬ lg_cmp y c = 0) → cmpc y a b l = b := by
  intro l
  induction l with
  | nil => intro _; rfl
  | cons c l ih =>
    intro h
    show (if lg_cmp y c = 0 then a else cmpc y a b l) = b
    rw [if_neg (h c (List.mem_cons_self ..))]
    exact ih (fun e he => h e (List.mem_cons_of_mem _ he))
theorem m_isOwn (d : Nat) (I : tI) (J : tJ) (y : Int64) : am_G (am_ev (d + 1)) 168 [.ref 0, .long y] (I, J, tm_R, tm_S, 77, 21637) = cmpc y (some (some (.int 1), (I, J, tm_R, tm_S, 77, 21637))) (some (some (.int 0), (I, J, tm_R, tm_S, 77, 21637))) wOc := by
  rw [b168_0]; rfl
theorem wOc_m : wOc = (List.range 32).map (fun k => Int64.ofNat (ow8.getD k 0)) := by decide +kernel
theorem m_own1 (d : Nat) (I : tI) (J : tJ) {k : Nat} (hk : k < 32) : am_G (am_ev (d + 1)) 168 [.ref 0, .long (Int64.ofNat (e8 (ow k)))] (I, J, tm_R, tm_S, 77, 21637) = some (some (.int 1), (I, J, tm_R, tm_S, 77, 21637)) := by
  rw [m_isOwn]
  refine cmpc_t _ _ _ _ ⟨Int64.ofNat (ow8.getD k 0), ?_, (w_own (ow_wd hk) hk rfl).mpr rfl⟩
  rw [wOc_m]
  exact List.mem_map.mpr ⟨k, List.mem_range.mpr hk, rfl⟩
theorem m_own0 (d : Nat) (I : tI) (J : tJ) {w : List Nat} (hw : wdOK w) (ho : ¬ own w) : am_G (am_ev (d + 1)) 168 [.ref 0, .long (Int64.ofNat (e8 w))] (I, J, tm_R, tm_S, 77, 21637) = some (some (.int 0), (I, J, tm_R, tm_S, 77, 21637)) := by
  rw [m_isOwn]
  refine cmpc_f _ _ _ _ (fun c hc q => ?_)
  rw [wOc_m] at hc
  obtain ⟨k, hk, rfl⟩ := List.mem_map.mp hc
  have hk := List.mem_range.mp hk
  exact ho ⟨k, hk, (w_own hw hk rfl).mp q⟩
