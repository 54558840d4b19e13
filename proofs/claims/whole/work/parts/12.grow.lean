/-! a run never loses cells -/
def am_gw (M M1 : am_M) : Prop := M.2.2.2.2.1 ≤ M1.2.2.2.2.1 ∧ M.2.2.2.2.2 ≤ M1.2.2.2.2.2
theorem am_gw.trans {M M1 M2 : am_M} (h : am_gw M M1) (h2 : am_gw M1 M2) : am_gw M M2 := ⟨Nat.le_trans h.1 h2.1, Nat.le_trans h.2 h2.2⟩
def am_TG (M0 : am_M) (F : (Nat → List Value → List Value → am_M → am_O) → am_O) : Prop := (∃ c, (∀ r M1, c = some (r, M1) → am_gw M0 M1) ∧ ∀ f, F f = c) ∨ ∃ pc L st M1, am_gw M0 M1 ∧ ∀ f, F f = f pc L st M1
section GROW
variable {M0 : am_M}
theorem am_gc (c : am_O) (h : ∀ r M1, c = some (r, M1) → am_gw M0 M1) : am_TG M0 (fun _ => c) := Or.inl ⟨c, h, fun _ => rfl⟩
theorem am_gf1 (pc : Nat) (L st : List Value) (M1 : am_M) (h : am_gw M0 M1) : am_TG M0 (fun f => f pc L st M1) := Or.inr ⟨pc, L, st, M1, h, fun _ => rfl⟩
theorem am_g_ite {c : Prop} [Decidable c] {F G : (Nat → List Value → List Value → am_M → am_O) → am_O} (hF : am_TG M0 F) (hG : am_TG M0 G) : am_TG M0 (fun f => if c then F f else G f) := by
  by_cases h : c
  · simp only [h, if_true]; exact hF
  · simp only [h, if_false]; exact hG
theorem am_g_I {v : Option Value} {F : (Nat → List Value → List Value → am_M → am_O) → Int32 → am_O} (h : ∀ x, am_TG M0 (fun f => F f x)) : am_TG M0 (fun f => am_isI v (F f)) := by
  unfold am_isI; split
  · exact h _
  · exact am_gc none (by intro _ _ h; cases h)
theorem am_g_L {v : Option Value} {F : (Nat → List Value → List Value → am_M → am_O) → Int64 → am_O} (h : ∀ x, am_TG M0 (fun f => F f x)) : am_TG M0 (fun f => am_isL v (F f)) := by
  unfold am_isL; split
  · exact h _
  · exact am_gc none (by intro _ _ h; cases h)
theorem am_g_R {v : Option Value} {F : (Nat → List Value → List Value → am_M → am_O) → Nat → am_O} (h : ∀ x, am_TG M0 (fun f => F f x)) : am_TG M0 (fun f => am_isR v (F f)) := by
  unfold am_isR; split
  · exact h _
  · exact am_gc none (by intro _ _ h; cases h)
theorem am_g_p2 {st : List Value} {F : (Nat → List Value → List Value → am_M → am_O) → Int32 → Int32 → List Value → am_O} (h : ∀ x y r, am_TG M0 (fun f => F f x y r)) : am_TG M0 (fun f => am_p2 st (F f)) := by
  unfold am_p2; split
  · exact h _ _ _
  · exact am_gc none (by intro _ _ h; cases h)
theorem am_g_p2L {st : List Value} {F : (Nat → List Value → List Value → am_M → am_O) → Int64 → Int64 → List Value → am_O} (h : ∀ x y r, am_TG M0 (fun f => F f x y r)) : am_TG M0 (fun f => am_p2L st (F f)) := by
  unfold am_p2L; split
  · exact h _ _ _
  · exact am_gc none (by intro _ _ h; cases h)
theorem am_g_p1 {st : List Value} {F : (Nat → List Value → List Value → am_M → am_O) → Int32 → List Value → am_O} (h : ∀ x r, am_TG M0 (fun f => F f x r)) : am_TG M0 (fun f => am_p1 st (F f)) := by
  unfold am_p1; split
  · exact h _ _
  · exact am_gc none (by intro _ _ h; cases h)
theorem am_g_p1L {st : List Value} {F : (Nat → List Value → List Value → am_M → am_O) → Int64 → List Value → am_O} (h : ∀ x r, am_TG M0 (fun f => F f x r)) : am_TG M0 (fun f => am_p1L st (F f)) := by
  unfold am_p1L; split
  · exact h _ _
  · exact am_gc none (by intro _ _ h; cases h)
theorem am_g_pR {st : List Value} {F : (Nat → List Value → List Value → am_M → am_O) → Nat → List Value → am_O} (h : ∀ x r, am_TG M0 (fun f => F f x r)) : am_TG M0 (fun f => am_pR st (F f)) := by
  unfold am_pR; split
  · exact h _ _
  · exact am_gc none (by intro _ _ h; cases h)
theorem am_g_pIR {st : List Value} {F : (Nat → List Value → List Value → am_M → am_O) → Int32 → Nat → List Value → am_O} (h : ∀ x y r, am_TG M0 (fun f => F f x y r)) : am_TG M0 (fun f => am_pIR st (F f)) := by
  unfold am_pIR; split
  · exact h _ _ _
  · exact am_gc none (by intro _ _ h; cases h)
theorem am_g_pVIR {st : List Value} {F : (Nat → List Value → List Value → am_M → am_O) → Value → Int32 → Nat → List Value → am_O} (h : ∀ v x y r, am_TG M0 (fun f => F f v x y r)) : am_TG M0 (fun f => am_pVIR st (F f)) := by
  unfold am_pVIR; split
  · exact h _ _ _ _
  · exact am_gc none (by intro _ _ h; cases h)
theorem am_g_pVR {st : List Value} {F : (Nat → List Value → List Value → am_M → am_O) → Value → Nat → List Value → am_O} (h : ∀ v x r, am_TG M0 (fun f => F f v x r)) : am_TG M0 (fun f => am_pVR st (F f)) := by
  unfold am_pVR; split
  · exact h _ _ _
  · exact am_gc none (by intro _ _ h; cases h)
theorem am_g_cnd {c : ClassFile.Cond} {x y : Int32} {F G : (Nat → List Value → List Value → am_M → am_O) → am_O} (hF : am_TG M0 F) (hG : am_TG M0 G) : am_TG M0 (fun f => am_cnd c x y (F f) (G f)) := by
  cases c <;> simp only [am_cnd]
  · exact am_g_ite hF hG
  · exact am_g_ite hG hF
  · exact am_g_ite hF hG
  · exact am_g_ite hF hG
  · exact am_g_ite hF hG
  · exact am_g_ite hF hG
theorem am_g_sw {x : Int32} {d : Nat} {F : (Nat → List Value → List Value → am_M → am_O) → Nat → am_O} (h : ∀ t, am_TG M0 (fun f => F f t)) : ∀ l : List (Int32 × Nat), am_TG M0 (fun f => am_sw x (F f) d l)
  | [] => h d
  | (k, t) :: r => am_g_ite (h t) (am_g_sw h r)
theorem am_g_pf {k j kd : Nat} {v : Value} {F : (Nat → List Value → List Value → am_M → am_O) → am_M → am_O} (h : ∀ M, am_gw M0 M → am_TG M0 (fun f => F f M)) : am_TG M0 (fun f => am_pf M0 k j kd v (F f)) := by
  unfold am_pf
  split <;> split <;> first | exact h _ ⟨Nat.le_refl _, Nat.le_refl _⟩ | exact am_gc none (by intro _ _ h; cases h) | exact am_g_ite (h _ ⟨Nat.le_refl _, Nat.le_refl _⟩) (am_gc none (by intro _ _ h; cases h))
theorem am_g_call {q : am_O} {F : (Nat → List Value → List Value → am_M → am_O) → Option Value → am_M → am_O} (hq : ∀ r M, q = some (r, M) → am_gw M0 M) (h : ∀ r M, am_gw M0 M → am_TG M0 (fun f => F f r M)) : am_TG M0 (fun f => am_call q (F f)) := by
  unfold am_call; split
  · rename_i r M
    exact h _ _ (hq r M rfl)
  · exact am_gc none (by intro _ _ h; cases h)
theorem am_g_inv (e : am_E) (g : Nat → List Value → am_M → am_O) (hg : ∀ a as M r M1, g a as M = some (r, M1) → am_gw M M1) (pc : Nat) (L st : List Value) : am_TG M0 (fun f => am_inv e g f pc L st M0) := by
  unfold am_inv
  split
  · exact am_g_pR fun _ _ => am_g_ite (am_gf1 _ _ _ _ ⟨Nat.le_refl _, Nat.le_refl _⟩) (am_gc none (by intro _ _ h; cases h))
  · exact am_g_pIR fun _ _ _ => am_g_ite (am_gf1 _ _ _ _ ⟨Nat.le_refl _, Nat.le_refl _⟩) (am_gc none (by intro _ _ h; cases h))
  · exact am_g_pIR fun _ _ _ => am_g_ite (am_gf1 _ _ _ _ ⟨Nat.le_refl _, Nat.le_refl _⟩) (am_gc none (by intro _ _ h; cases h))
  · split
    · exact am_g_ite (am_gf1 _ _ _ _ ⟨Nat.le_refl _, Nat.le_refl _⟩) (am_gc none (by intro _ _ h; cases h))
    · exact am_gc none (by intro _ _ h; cases h)
  · exact am_g_ite (am_g_call (fun _ _ h => hg _ _ _ _ _ h) fun _ _ h => am_gf1 _ _ _ _ h) (am_gc none (by intro _ _ h; cases h))
  · split
    · exact am_g_ite (am_g_call (fun _ _ h => hg _ _ _ _ _ h) fun _ _ h => am_gf1 _ _ _ _ h) (am_gc none (by intro _ _ h; cases h))
    · exact am_gc none (by intro _ _ h; cases h)
set_option maxHeartbeats 4000000 in
theorem am_g_ail (e : am_E) (rk : Nat) (K : Nat → Int64) (g : Nat → List Value → am_M → am_O) (hg : ∀ a as M r M1, g a as M = some (r, M1) → am_gw M M1) (pc : Nat) (L st : List Value) (M0 : am_M) : am_TG M0 (fun f => am_step e rk K g f pc L st M0) := by
  unfold am_step
  split
  all_goals first
    | exact am_gf1 _ _ _ _ ⟨Nat.le_refl _, Nat.le_refl _⟩
    | exact am_g_I fun _ => am_gf1 _ _ _ _ ⟨Nat.le_refl _, Nat.le_refl _⟩
    | exact am_g_L fun _ => am_gf1 _ _ _ _ ⟨Nat.le_refl _, Nat.le_refl _⟩
    | exact am_g_R fun _ => am_gf1 _ _ _ _ ⟨Nat.le_refl _, Nat.le_refl _⟩
    | exact am_g_p1 fun _ _ => am_gf1 _ _ _ _ ⟨Nat.le_refl _, Nat.le_refl _⟩
    | exact am_g_p1L fun _ _ => am_gf1 _ _ _ _ ⟨Nat.le_refl _, Nat.le_refl _⟩
    | exact am_g_pR fun _ _ => am_gf1 _ _ _ _ ⟨Nat.le_refl _, Nat.le_refl _⟩
    | exact am_g_p2 fun _ _ _ => am_gf1 _ _ _ _ ⟨Nat.le_refl _, Nat.le_refl _⟩
    | exact am_g_p2L fun _ _ _ => am_gf1 _ _ _ _ ⟨Nat.le_refl _, Nat.le_refl _⟩
    | exact am_g_p2 fun _ _ _ => am_g_ite (am_gc none (by intro _ _ h; cases h)) (am_gf1 _ _ _ _ ⟨Nat.le_refl _, Nat.le_refl _⟩)
    | exact am_g_p2L fun _ _ _ => am_g_ite (am_gc none (by intro _ _ h; cases h)) (am_gf1 _ _ _ _ ⟨Nat.le_refl _, Nat.le_refl _⟩)
    | exact am_g_p1 fun _ _ => am_g_p1L fun _ _ => am_gf1 _ _ _ _ ⟨Nat.le_refl _, Nat.le_refl _⟩
    | exact am_g_p1 fun _ _ => am_g_cnd (am_gf1 _ _ _ _ ⟨Nat.le_refl _, Nat.le_refl _⟩) (am_gf1 _ _ _ _ ⟨Nat.le_refl _, Nat.le_refl _⟩)
    | exact am_g_p2 fun _ _ _ => am_g_cnd (am_gf1 _ _ _ _ ⟨Nat.le_refl _, Nat.le_refl _⟩) (am_gf1 _ _ _ _ ⟨Nat.le_refl _, Nat.le_refl _⟩)
    | exact am_g_p1 fun _ _ => am_g_sw (fun _ => am_gf1 _ _ _ _ ⟨Nat.le_refl _, Nat.le_refl _⟩) _
    | exact am_g_pR fun _ _ => am_g_ite (am_gf1 _ _ _ _ ⟨Nat.le_refl _, Nat.le_refl _⟩) (am_gc none (by intro _ _ h; cases h))
    | exact am_g_pVR fun _ _ _ => am_g_ite (am_g_pf fun _ h => am_gf1 _ _ _ _ h) (am_gc none (by intro _ _ h; cases h))
    | exact am_g_pIR fun _ _ _ => am_g_ite (am_g_ite (am_gf1 _ _ _ _ ⟨Nat.le_refl _, Nat.le_refl _⟩) (am_gc none (by intro _ _ h; cases h))) (am_g_ite (am_gf1 _ _ _ _ ⟨Nat.le_refl _, Nat.le_refl _⟩) (am_gc none (by intro _ _ h; cases h)))
    | exact am_g_pIR fun _ _ _ => am_g_ite (am_g_ite (am_gf1 _ _ _ _ ⟨Nat.le_refl _, Nat.le_refl _⟩) (am_gc none (by intro _ _ h; cases h))) (am_gc none (by intro _ _ h; cases h))
    | exact am_g_pVIR fun _ _ _ _ => am_g_I fun _ => am_g_ite (am_g_ite (am_gf1 _ _ _ _ ⟨Nat.le_refl _, Nat.le_refl _⟩) (am_gc none (by intro _ _ h; cases h))) (am_gc none (by intro _ _ h; cases h))
    | exact am_g_pVIR fun _ _ _ _ => am_g_L fun _ => am_g_ite (am_g_ite (am_gf1 _ _ _ _ ⟨Nat.le_refl _, Nat.le_refl _⟩) (am_gc none (by intro _ _ h; cases h))) (am_gc none (by intro _ _ h; cases h))
    | exact am_g_pVIR fun _ _ _ _ => am_g_R fun _ => am_g_ite (am_g_ite (am_gf1 _ _ _ _ ⟨Nat.le_refl _, Nat.le_refl _⟩) (am_gc none (by intro _ _ h; cases h))) (am_gc none (by intro _ _ h; cases h))
    | exact am_g_p1 fun _ _ => am_g_ite (am_gc none (by intro _ _ h; cases h)) (am_gf1 _ _ _ _ ⟨Nat.le_refl _, Nat.le_refl _⟩)
    | exact am_g_inv _ _ hg _ _ _
    | exact am_gf1 _ _ _ _ ⟨Nat.le_succ _, Nat.le_add_right _ _⟩
    | exact am_g_p1 fun _ _ => am_g_ite (am_gc none (by intro _ _ h; cases h)) (am_gf1 _ _ _ _ ⟨Nat.le_succ _, Nat.le_add_right _ _⟩)
    | exact am_g_p2 fun _ _ _ => am_g_ite (am_gc none (by intro _ _ h; cases h)) (am_gf1 _ _ _ _ ⟨Nat.le_trans (Nat.le_succ _) (Nat.le_add_right _ _), Nat.le_add_right _ _⟩)
    | exact am_gc none (by intro _ _ h; cases h)
    | (split
       all_goals first
         | exact am_gc none (by intro _ _ h; cases h)
         | exact am_g_ite (am_gf1 _ _ _ _ ⟨Nat.le_refl _, Nat.le_refl _⟩) (am_gc none (by intro _ _ h; cases h))
         | exact am_g_ite (am_gc _ (by intro _ _ h; cases h; exact ⟨Nat.le_refl _, Nat.le_refl _⟩)) (am_gc none (by intro _ _ h; cases h)))
end GROW
theorem am_gx {g : Nat → List Value → am_M → am_O} (hg : ∀ a as M r M1, g a as M = some (r, M1) → am_gw M M1) (mi : Nat) : ∀ (n pc : Nat) (L st : List Value) (M : am_M) (r : Option Value) (M1 : am_M), am_ex g mi n pc L st M = some (r, M1) → am_gw M M1 := by
  intro n
  induction n with
  | zero => intro pc L st M r M1 h; cases h
  | succ n ih =>
    intro pc L st M r M1 h
    change am_st g mi (am_ex g mi n) pc L st M = some (r, M1) at h
    rcases am_g_ail (am_ent mi pc) (am_rk mi) am_K g hg pc L st M with ⟨c, h1, hc⟩ | ⟨pc', L', st', M', h1, hc⟩
    · have hs : ∀ f, am_st g mi f pc L st M = c := hc
      rw [hs] at h
      exact h1 r M1 h
    · have hs : ∀ f, am_st g mi f pc L st M = f pc' L' st' M' := hc
      rw [hs] at h
      exact h1.trans (ih _ _ _ _ _ _ h)
theorem am_gev : ∀ (d mi pc : Nat) (L st : List Value) (M : am_M) (r : Option Value) (M1 : am_M), am_ev d mi pc L st M = some (r, M1) → am_gw M M1 := by
  intro d
  induction d with
  | zero =>
    intro mi pc L st M r M1 h
    obtain ⟨n, hn⟩ := am_run_iff.mp h
    exact am_gx (fun _ _ _ _ _ h => by cases h) mi n pc L st M r M1 hn
  | succ d ih =>
    intro mi pc L st M r M1 h
    obtain ⟨n, hn⟩ := am_run_iff.mp h
    exact am_gx (fun a as M r M1 h => ih a 0 _ [] M r M1 (am_G_some h).2) mi n pc L st M r M1 hn
