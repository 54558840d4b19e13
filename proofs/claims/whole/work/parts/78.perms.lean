/-! orders: all of them, and the first of the least -/
section PR
variable {α β : Type}
def picks : List α → List (α × List α)
  | [] => []
  | a :: l => (a, l) :: (picks l).map (fun p => (p.1, a :: p.2))
def perms : Nat → List α → List (List α)
  | 0, _ => [[]]
  | k + 1, l => (picks l).flatMap (fun p => (perms k p.2).map (fun t => p.1 :: t))
theorem perms_s (k : Nat) (l : List α) : perms (k + 1) l = (picks l).flatMap (fun p => (perms k p.2).map (fun t => p.1 :: t)) := rfl
theorem picks_c (a : α) (l : List α) : picks (a :: l) = (a, l) :: (picks l).map (fun p => (p.1, a :: p.2)) := rfl
theorem picks_map (f : α → β) : ∀ l : List α, picks (l.map f) = (picks l).map (fun p => (f p.1, p.2.map f)) := by
  intro l
  induction l with
  | nil => rfl
  | cons a l ih =>
    rw [List.map_cons, picks_c, picks_c, ih, List.map_cons, List.map_map, List.map_map]
    rfl
theorem perms_map (f : α → β) : ∀ k (l : List α), perms k (l.map f) = (perms k l).map (List.map f) := by
  intro k
  induction k with
  | zero => intro l; rfl
  | succ k ih =>
    intro l
    rw [perms_s, perms_s, picks_map, List.flatMap_map, List.map_flatMap]
    congr 1
    funext p
    rw [ih, List.map_map, List.map_map]
    rfl
theorem picks_len : ∀ (l : List α) p, p ∈ picks l → p.2.length + 1 = l.length := by
  intro l
  induction l with
  | nil => intro p h; cases h
  | cons a l ih =>
    intro p h
    rw [picks_c] at h
    rcases List.mem_cons.mp h with e | e
    · rw [e]; rfl
    · obtain ⟨q, hq, rfl⟩ := List.mem_map.mp e
      have := ih q hq
      show q.2.length + 1 + 1 = l.length + 1
      omega
theorem perms_len : ∀ k (l : List α), l.length = k → ∀ t, t ∈ perms k l → t.length = k := by
  intro k
  induction k with
  | zero => intro l _ t h; rw [List.mem_singleton.mp h]; rfl
  | succ k ih =>
    intro l hl t h
    rw [perms_s] at h
    obtain ⟨p, hp, hm⟩ := List.mem_flatMap.mp h
    obtain ⟨u, hu, rfl⟩ := List.mem_map.mp hm
    have e := picks_len l p hp
    have := ih p.2 (by omega) u hu
    show u.length + 1 = k + 1
    omega
/-- of two, the first if it is not dearer -/
def cmb (c : β → Nat) : Option β → Option β → Option β
  | none, y => y
  | some b, none => some b
  | some b, some d => if c d < c b then some d else some b
theorem cmb_2 (c : β → Nat) (b d : β) : cmb c (some b) (some d) = if c d < c b then some d else some b := rfl
theorem cmb_n (c : β → Nat) (a : Option β) : cmb c a none = a := by cases a <;> rfl
theorem cmb_a (c : β → Nat) (a b d : Option β) : cmb c (cmb c a b) d = cmb c a (cmb c b d) := by
  cases a with
  | none => rfl
  | some a =>
    cases b with
    | none => rfl
    | some b =>
      cases d with
      | none => rw [cmb_n, cmb_n]
      | some d =>
        rw [cmb_2, cmb_2]
        by_cases q1 : c b < c a
        · rw [if_pos q1, cmb_2]
          by_cases q2 : c d < c b
          · rw [if_pos q2, cmb_2, if_pos (by omega)]
          · rw [if_neg q2, cmb_2, if_pos q1]
        · rw [if_neg q1, cmb_2]
          by_cases q2 : c d < c b
          · rw [if_pos q2, cmb_2]
          · rw [if_neg q2, cmb_2, if_neg q1, if_neg (by omega)]
def fm (c : β → Nat) : List β → Option β
  | [] => none
  | a :: l => cmb c (some a) (fm c l)
theorem fm_c (c : β → Nat) (a : β) (l : List β) : fm c (a :: l) = cmb c (some a) (fm c l) := rfl
theorem fm_app (c : β → Nat) (l m : List β) : fm c (l ++ m) = cmb c (fm c l) (fm c m) := by
  induction l with
  | nil => rfl
  | cons a l ih => rw [List.cons_append, fm_c, fm_c, ih, cmb_a]
theorem cmb_map {c : β → Nat} {d : α → Nat} {f : α → β} {k : Nat} (h : ∀ t, c (f t) = k + d t) (x y : Option α) : cmb c (x.map f) (y.map f) = (cmb d x y).map f := by
  cases x with
  | none => rfl
  | some a =>
    cases y with
    | none => rfl
    | some b =>
      show (if c (f b) < c (f a) then some (f b) else some (f a)) = (if d b < d a then some b else some a).map f
      rw [h, h]
      by_cases q : d b < d a
      · rw [if_pos q, if_pos (by omega)]; rfl
      · rw [if_neg q, if_neg (by omega)]; rfl
theorem fm_map {c : β → Nat} {d : α → Nat} {f : α → β} {k : Nat} (h : ∀ t, c (f t) = k + d t) : ∀ l : List α, fm c (l.map f) = (fm d l).map f := by
  intro l
  induction l with
  | nil => rfl
  | cons a l ih =>
    rw [List.map_cons, fm_c, fm_c, ih]
    exact cmb_map h (some a) (fm d l)
/-- the hours of an order -/
def cst' (g : α → α → Nat) : α → List α → Nat
  | _, [] => 0
  | b, a :: l => g b a + cst' g a l
theorem cst_c (g : α → α → Nat) (b a : α) (l : List α) : cst' g b (a :: l) = g b a + cst' g a l := rfl
/-- the best order, chosen step by step -/
def bst (g : α → α → Nat) : Nat → α → List α → Option (List α)
  | 0, _, _ => some []
  | k + 1, b, l => (picks l).foldr (fun p r => cmb (cst' g b) ((bst g k p.1 p.2).map (fun t => p.1 :: t)) r) none
theorem bst_s (g : α → α → Nat) (k : Nat) (b : α) (l : List α) : bst g (k + 1) b l = (picks l).foldr (fun p r => cmb (cst' g b) ((bst g k p.1 p.2).map (fun t => p.1 :: t)) r) none := rfl
theorem fm_bst (g : α → α → Nat) : ∀ k (b : α) (l : List α), fm (cst' g b) (perms k l) = bst g k b l := by
  intro k
  induction k with
  | zero => intro b l; rfl
  | succ k ih =>
    intro b l
    rw [perms_s, bst_s]
    generalize picks l = P
    induction P with
    | nil => rfl
    | cons p P ihP =>
      rw [List.flatMap_cons, fm_app, ihP, List.foldr_cons, fm_map (c := cst' g b) (d := cst' g p.1) (f := fun t => p.1 :: t) (k := g b p.1) (fun t => rfl), ih]
end PR
/-! the next order, as the class finds it -/
def fI (p : List Nat) : Nat → Option Nat
  | 0 => none
  | k + 1 => if p.getD k 0 ≤ p.getD (k + 1) 0 then some k else fI p k
def fJ (p : List Nat) (i : Nat) : Nat → Nat
  | 0 => 0
  | j + 1 => if j + 1 ≤ i ∨ p.getD i 0 ≤ p.getD (j + 1) 0 then j + 1 else fJ p i j
def swp (p : List Nat) (a b : Nat) : List Nat := (p.set a (p.getD b 0)).set b (p.getD a 0)
def rvs (p : List Nat) : Nat → Nat → Nat → List Nat
  | 0, _, _ => p
  | f + 1, l, r => if r ≤ l then p else rvs (swp p l r) f (l + 1) (r - 1)
def nxt (n : Nat) (p : List Nat) : Option (List Nat) := match fI p (n - 1) with
  | none => none
  | some i => some (rvs (swp p i (fJ p i (n - 1))) 6 (i + 1) (n - 1))
def chn (n : Nat) : List (List Nat) → Bool
  | [] => true
  | [a] => decide (nxt n a = none)
  | a :: b :: l => decide (nxt n a = some b) && chn n (b :: l)
theorem chn_all : ∀ n, n ≤ 6 → 1 ≤ n → chn n (perms n (List.range n)) = true := by
  intro n h1 h2
  have h : n = 1 ∨ n = 2 ∨ n = 3 ∨ n = 4 ∨ n = 5 ∨ n = 6 := by omega
  rcases h with rfl | rfl | rfl | rfl | rfl | rfl <;> decide +kernel
theorem perms_n : ∀ n, n ≤ 6 → (perms n (List.range n)).length ≤ 720 := by
  intro n h1
  have h : n = 0 ∨ n = 1 ∨ n = 2 ∨ n = 3 ∨ n = 4 ∨ n = 5 ∨ n = 6 := by omega
  rcases h with rfl | rfl | rfl | rfl | rfl | rfl | rfl <;> decide +kernel
