/-! LAWS: what the two codes do -/
theorem l_rn_app (h : Nat) (env : Nat → Int) : ∀ (A B : List (Nat × Int)) (S : List Int), l_rn h env (A ++ B) S = (l_rn h env A S).bind (l_rn h env B) := by
  intro A
  induction A with
  | nil => intro B S; rfl
  | cons c T ih =>
    intro B S
    show (l_st h env c S).bind (l_rn h env (T ++ B)) = ((l_st h env c S).bind (l_rn h env T)).bind (l_rn h env B)
    cases l_st h env c S with
    | none => rfl
    | some S' => exact ih B S'
theorem l_rn_a (h : Nat) (env : Nat → Int) {A B : List (Nat × Int)} {S S' : List Int} (e : l_rn h env A S = some S') : l_rn h env (A ++ B) S = l_rn h env B S' := by
  rw [l_rn_app, e]; rfl
theorem l_rn_1 (h : Nat) (env : Nat → Int) (c : Nat × Int) (S : List Int) : l_rn h env [c] S = l_st h env c S := by
  show (l_st h env c S).bind (l_rn h env []) = _
  cases l_st h env c S <;> rfl
/-- both codes put the same number on the stack; s places are enough -/
def EqV (s : Nat) (A V : List (Nat × Int)) : Prop := ∀ env, l_env env → ∃ v : Int, ∀ h S, S.length + s ≤ h → l_rn h env A S = some (v :: S) ∧ l_rn h env V S = some (v :: S)
def EqB (s : Nat) (A V : List (Nat × Int)) : Prop := ∀ env, l_env env → ∃ v : Int, (v = 0 ∨ v = 1) ∧ ∀ h S, S.length + s ≤ h → l_rn h env A S = some (v :: S) ∧ l_rn h env V S = some (v :: S)
theorem EqV.mono {s t : Nat} {A V : List (Nat × Int)} (h : EqV s A V) (ht : s ≤ t) : EqV t A V := fun env he => by
  obtain ⟨v, h1⟩ := h env he
  exact ⟨v, fun h S hS => h1 h S (by omega)⟩
theorem EqB.mono {s t : Nat} {A V : List (Nat × Int)} (h : EqB s A V) (ht : s ≤ t) : EqB t A V := fun env he => by
  obtain ⟨v, h0, h1⟩ := h env he
  exact ⟨v, h0, fun h S hS => h1 h S (by omega)⟩
theorem EqV.num {v : Nat} (hv : v ≤ 9999) : EqV 1 [(0, (v : Int))] [(0, (v : Int))] := fun env _ => by
  refine ⟨(v : Int), fun h S hS => ?_⟩
  have e : l_rn h env [(0, (v : Int))] S = some ((v : Int) :: S) := by
    rw [l_rn_1]
    unfold l_st
    rw [if_pos rfl, if_pos ⟨by omega, by show (0 : Int) ≤ (v : Int); omega, by show (v : Int) ≤ 9999; omega⟩]
  exact ⟨e, e⟩
theorem EqV.env {j : Nat} (h1 : 1 ≤ j) (h5 : j ≤ 5) (u u' : Int) : EqV 1 [(j, u)] [(j, u')] := fun env _ => by
  refine ⟨env j, fun h S hS => ?_⟩
  have e : ∀ u : Int, l_rn h env [(j, u)] S = some (env j :: S) := fun u => by
    rw [l_rn_1]
    unfold l_st
    rw [if_neg (show ¬ j = 0 by omega), if_pos (show j ≤ 5 by omega), if_pos (show S.length < h by omega)]
  exact ⟨e u, e u'⟩
theorem EqB.all : EqB 1 [(9, 0)] [(9, 0)] := fun env _ => by
  refine ⟨1, Or.inr rfl, fun h S hS => ?_⟩
  have e : l_rn h env [(9, 0)] S = some (1 :: S) := by
    rw [l_rn_1]
    unfold l_st
    rw [if_neg (show ¬ 9 = 0 by omega), if_neg (show ¬ 9 ≤ 5 by omega), if_pos rfl, if_pos (show S.length < h by omega)]
  exact ⟨e, e⟩
theorem l_st2 (h : Nat) (env : Nat → Int) {c : Nat} (h1 : 10 ≤ c) (h2 : c ≤ 21) (u a b : Int) (S : List Int) : l_st h env (c, u) (b :: a :: S) = (l_op2 c a b).map (fun v => v :: S) := by
  unfold l_st
  rw [if_neg (show ¬ c = 0 by omega), if_neg (show ¬ c ≤ 5 by omega), if_neg (show ¬ c = 9 by omega), if_neg (show ¬ c = 22 by omega)]
theorem l_op_v {c : Nat} (h1 : 10 ≤ c) (h2 : c ≤ 19) (a b : Int) : ∃ v, l_op2 c a b = some v ∧ (17 ≤ c → v = 0 ∨ v = 1) := by
  rcases (by omega : c = 10 ∨ c = 11 ∨ c = 12 ∨ c = 13 ∨ c = 14 ∨ c = 15 ∨ c = 16 ∨ c = 17 ∨ c = 18 ∨ c = 19) with rfl | rfl | rfl | rfl | rfl | rfl | rfl | rfl | rfl | rfl
  all_goals first
    | exact ⟨_, rfl, fun z => absurd z (by omega)⟩
    | (refine ⟨_, rfl, fun _ => ?_⟩; split <;> simp)
theorem l_op_b {c : Nat} (h : c = 20 ∨ c = 21) {a b : Int} (ha : a = 0 ∨ a = 1) (hb : b = 0 ∨ b = 1) : ∃ v, l_op2 c a b = some v ∧ (v = 0 ∨ v = 1) := by
  rcases h with rfl | rfl <;> rcases ha with rfl | rfl <;> rcases hb with rfl | rfl
  all_goals first
    | exact ⟨0, rfl, Or.inl rfl⟩
    | exact ⟨1, rfl, Or.inr rfl⟩
theorem run2 {h s t : Nat} {env : Nat → Int} {A A2 : List (Nat × Int)} {S : List Int} {a b : Int} {c : Nat × Int} (h1 : ∀ S : List Int, S.length + s ≤ h → l_rn h env A S = some (a :: S)) (h2 : ∀ S : List Int, S.length + t ≤ h → l_rn h env A2 S = some (b :: S)) (hS : S.length + max s (t + 1) ≤ h) : l_rn h env (A ++ A2 ++ [c]) S = l_st h env c (b :: a :: S) := by
  have e1 := h1 S (by omega)
  have e2 := h2 (a :: S) (by show S.length + 1 + t ≤ h; omega)
  rw [List.append_assoc, l_rn_a h env e1, l_rn_a h env e2, l_rn_1]
theorem EqV.op {s t : Nat} {A V A2 V2 : List (Nat × Int)} (h1 : EqV s A V) (h2 : EqV t A2 V2) {c : Nat} (c1 : 10 ≤ c) (c2 : c ≤ 19) : EqV (max s (t + 1)) (A ++ A2 ++ [(c, 0)]) (V ++ V2 ++ [(c, 0)]) := fun env he => by
  obtain ⟨a, e1⟩ := h1 env he
  obtain ⟨b, e2⟩ := h2 env he
  obtain ⟨v, e3, _⟩ := l_op_v c1 c2 a b
  refine ⟨v, fun h S hS => ⟨?_, ?_⟩⟩
  · rw [run2 (fun S z => (e1 h S z).1) (fun S z => (e2 h S z).1) hS, l_st2 h env c1 (by omega), e3]; rfl
  · rw [run2 (fun S z => (e1 h S z).2) (fun S z => (e2 h S z).2) hS, l_st2 h env c1 (by omega), e3]; rfl
theorem EqV.cmp {s t : Nat} {A V A2 V2 : List (Nat × Int)} (h1 : EqV s A V) (h2 : EqV t A2 V2) {c : Nat} (c1 : 17 ≤ c) (c2 : c ≤ 19) : EqB (max s (t + 1)) (A ++ A2 ++ [(c, 0)]) (V ++ V2 ++ [(c, 0)]) := fun env he => by
  obtain ⟨a, e1⟩ := h1 env he
  obtain ⟨b, e2⟩ := h2 env he
  obtain ⟨v, e3, e4⟩ := l_op_v (by omega : 10 ≤ c) c2 a b
  refine ⟨v, e4 c1, fun h S hS => ⟨?_, ?_⟩⟩
  · rw [run2 (fun S z => (e1 h S z).1) (fun S z => (e2 h S z).1) hS, l_st2 h env (by omega) (by omega), e3]; rfl
  · rw [run2 (fun S z => (e1 h S z).2) (fun S z => (e2 h S z).2) hS, l_st2 h env (by omega) (by omega), e3]; rfl
theorem EqB.op {s t : Nat} {A V A2 V2 : List (Nat × Int)} (h1 : EqB s A V) (h2 : EqB t A2 V2) {c : Nat} (hc : c = 20 ∨ c = 21) : EqB (max s (t + 1)) (A ++ A2 ++ [(c, 0)]) (V ++ V2 ++ [(c, 0)]) := fun env he => by
  obtain ⟨a, a01, e1⟩ := h1 env he
  obtain ⟨b, b01, e2⟩ := h2 env he
  obtain ⟨v, e3, e4⟩ := l_op_b hc a01 b01
  refine ⟨v, e4, fun h S hS => ⟨?_, ?_⟩⟩
  · rw [run2 (fun S z => (e1 h S z).1) (fun S z => (e2 h S z).1) hS, l_st2 h env (by omega) (by omega), e3]; rfl
  · rw [run2 (fun S z => (e1 h S z).2) (fun S z => (e2 h S z).2) hS, l_st2 h env (by omega) (by omega), e3]; rfl
theorem l_st22 (h : Nat) (env : Nat → Int) {v : Int} (hv : v = 0 ∨ v = 1) (S : List Int) : l_st h env (22, 0) (v :: S) = some ((1 - v) :: S) := by
  unfold l_st
  rw [if_neg (show ¬ 22 = 0 by omega), if_neg (show ¬ 22 ≤ 5 by omega), if_neg (show ¬ 22 = 9 by omega), if_pos rfl]
  have : l_bool v = true := by rcases hv with rfl | rfl <;> rfl
  show (if l_bool v = true then some ((1 - v) :: S) else none) = _
  rw [if_pos this]
theorem l_rnot (h : Nat) (env : Nat → Int) (S : List Int) : ∀ (k : Nat) (v : Int), (v = 0 ∨ v = 1) → l_rn h env (List.replicate k (22, 0)) (v :: S) = some ((if k % 2 = 1 then 1 - v else v) :: S) := by
  intro k
  induction k with
  | zero => intro v _; rfl
  | succ k ih =>
    intro v hv
    rw [List.replicate_succ]
    show (l_st h env (22, 0) (v :: S)).bind (l_rn h env (List.replicate k (22, 0))) = _
    rw [l_st22 h env hv]
    show l_rn h env (List.replicate k (22, 0)) ((1 - v) :: S) = _
    rw [ih (1 - v) (by omega)]
    by_cases z : k % 2 = 1
    · rw [if_pos z, if_neg (by omega)]; congr 1; congr 1; omega
    · rw [if_neg z, if_pos (by omega)]
def lnots (k : Nat) : List (Nat × Int) := if k % 2 = 1 then [(22, 0)] else []
theorem EqB.nots {s : Nat} {A V : List (Nat × Int)} (h : EqB s A V) (k : Nat) : EqB s (A ++ lnots k) (V ++ List.replicate k (22, 0)) := fun env he => by
  obtain ⟨v, v01, e⟩ := h env he
  refine ⟨if k % 2 = 1 then 1 - v else v, by split <;> omega, fun h S hS => ⟨?_, ?_⟩⟩
  · rw [l_rn_a h env (e h S hS).1]
    unfold lnots
    by_cases z : k % 2 = 1
    · rw [if_pos z, if_pos z, l_rn_1, l_st22 h env v01]
    · rw [if_neg z, if_neg z]; rfl
  · rw [l_rn_a h env (e h S hS).2, l_rnot h env S k v v01]
theorem EqB.ok {s : Nat} {A V : List (Nat × Int)} (h : EqB s A V) (hs : s ≤ 64) : l_ok A V := fun env he => by
  obtain ⟨v, v01, e⟩ := h env he
  exact ⟨v, v01, (e 64 [] (by show 0 + s ≤ 64; omega)).1, (e 1600 [] (by show 0 + s ≤ 1600; omega)).2⟩
