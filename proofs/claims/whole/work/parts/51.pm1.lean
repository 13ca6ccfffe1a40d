/-! the search over numberings: what the least rows, the least code and the first numbering of these are -/
def pm_OP : Nat := 2147483647
def pm_lt : List Nat → List Nat → Bool
  | [], _ => false
  | _ :: _, [] => false
  | a :: s, b :: t => decide (a < b) || (decide (a = b) && pm_lt s t)
def pm_ext (n : Nat) : Nat → List Nat → List (List Nat)
  | 0, pre => [pre]
  | k + 1, pre => ((List.range n).filter (fun a => !pre.contains a)).flatMap (fun a => pm_ext n k (pre ++ [a]))
def pm_rows (row : List Nat → Nat → Nat) : List Nat → List Nat → List Nat
  | _, [] => []
  | pre, a :: t => row pre a :: pm_rows row (pre ++ [a]) t
abbrev pm_S : Type := List Nat × Nat × List Nat
def pm_step (row : List Nat → Nat → Nat) (code : List Nat → Nat) (S : pm_S) (π : List Nat) : pm_S :=
  if pm_lt (pm_rows row [] π) S.1 = true then (pm_rows row [] π, code π, π)
  else if pm_rows row [] π = S.1 then (if code π < S.2.1 then (S.1, code π, π) else S) else S
theorem pm_rows_app (row : List Nat → Nat → Nat) : ∀ (s pre t : List Nat), pm_rows row pre (s ++ t) = pm_rows row pre s ++ pm_rows row (pre ++ s) t := by
  intro s
  induction s with
  | nil => intro pre t; simp [pm_rows]
  | cons a s ih => intro pre t; simp [pm_rows, ih]
theorem pm_rows_len (row : List Nat → Nat → Nat) : ∀ (s pre : List Nat), (pm_rows row pre s).length = s.length := by
  intro s
  induction s with
  | nil => intro pre; rfl
  | cons a s ih => intro pre; simp [pm_rows, ih]
theorem pm_lt_irr : ∀ s : List Nat, pm_lt s s = false := by
  intro s
  induction s with
  | nil => rfl
  | cons a s ih => simp [pm_lt, ih]
theorem pm_lt_app : ∀ (p s t : List Nat), pm_lt (p ++ s) (p ++ t) = pm_lt s t := by
  intro p
  induction p with
  | nil => intro s t; rfl
  | cons a p ih => intro s t; simp [pm_lt, ih]
theorem pm_lt_trans : ∀ (s t u : List Nat), pm_lt s t = true → pm_lt t u = true → pm_lt s u = true := by
  intro s
  induction s with
  | nil => intro t u h; simp [pm_lt] at h
  | cons a s ih =>
    intro t u h1 h2
    cases t with
    | nil => simp [pm_lt] at h1
    | cons b t =>
      cases u with
      | nil => simp [pm_lt] at h2
      | cons c u =>
        simp only [pm_lt, Bool.or_eq_true, Bool.and_eq_true, decide_eq_true_eq] at h1 h2 ⊢
        rcases h1 with h1 | ⟨h1, h1'⟩ <;> rcases h2 with h2 | ⟨h2, h2'⟩
        · left; omega
        · left; omega
        · left; omega
        · right; exact ⟨by omega, ih t u h1' h2'⟩
theorem pm_lt_tri : ∀ (s t : List Nat), s.length = t.length → pm_lt s t = false → s ≠ t → pm_lt t s = true := by
  intro s
  induction s with
  | nil => intro t h; cases t with
    | nil => intro _ h2; exact absurd rfl h2
    | cons b t => simp at h
  | cons a s ih =>
    intro t h h1 h2
    cases t with
    | nil => simp at h
    | cons b t =>
      simp only [pm_lt, Bool.or_eq_false_iff, Bool.and_eq_false_iff, decide_eq_false_iff_not] at h1
      simp only [pm_lt, Bool.or_eq_true, Bool.and_eq_true, decide_eq_true_eq]
      by_cases hab : a = b
      · subst hab
        right
        refine ⟨rfl, ih t (by simpa using h) ?_ (fun e => h2 (by rw [e]))⟩
        rcases h1.2 with h3 | h3
        · exact absurd rfl h3
        · exact h3
      · left
        have := h1.1
        omega
theorem pm_lt_asym {s t : List Nat} (h : pm_lt s t = true) : pm_lt t s = false := by
  cases h2 : pm_lt t s with
  | false => rfl
  | true =>
    have := pm_lt_trans s t s h h2
    rw [pm_lt_irr] at this
    cases this
theorem pm_lt_ne {s t : List Nat} (h : pm_lt s t = true) : s ≠ t := by
  intro e
  subst e
  rw [pm_lt_irr] at h
  cases h
/-- a key is seen: nothing changes when it comes again -/
def pm_seen (S : pm_S) (r : List Nat) (c : Nat) : Prop := pm_lt S.1 r = true ∨ (S.1 = r ∧ S.2.1 ≤ c)
theorem pm_seen_noop {row : List Nat → Nat → Nat} {code : List Nat → Nat} {S : pm_S} {π : List Nat} (h : pm_seen S (pm_rows row [] π) (code π)) : pm_step row code S π = S := by
  unfold pm_step
  rcases h with h | ⟨h1, h2⟩
  · rw [if_neg (by rw [pm_lt_asym h]; decide), if_neg (fun e => pm_lt_ne h e.symm)]
  · rw [← h1, if_neg (by rw [pm_lt_irr]; decide), if_pos rfl, if_neg (by omega)]
theorem pm_seen_self {row : List Nat → Nat → Nat} {code : List Nat → Nat} {S : pm_S} {π : List Nat} (hl : S.1.length = π.length) : pm_seen (pm_step row code S π) (pm_rows row [] π) (code π) := by
  unfold pm_step
  split
  · exact Or.inr ⟨rfl, Nat.le_refl _⟩
  · rename_i h
    split
    · rename_i h2
      split
      · exact Or.inr ⟨h2.symm, Nat.le_refl _⟩
      · rename_i h3
        exact Or.inr ⟨h2.symm, by omega⟩
    · rename_i h2
      exact Or.inl (pm_lt_tri _ _ (by rw [pm_rows_len]; exact hl.symm) (by simpa using h) h2)
theorem pm_seen_keep {row : List Nat → Nat → Nat} {code : List Nat → Nat} {S : pm_S} {π : List Nat} {r : List Nat} {c : Nat} (h : pm_seen S r c) : pm_seen (pm_step row code S π) r c := by
  unfold pm_step
  split
  · rename_i h1
    rcases h with h | ⟨h2, h3⟩
    · exact Or.inl (pm_lt_trans _ _ _ h1 h)
    · exact Or.inl (by rw [← h2]; exact h1)
  · split
    · split
      · rename_i h4
        rcases h with h | ⟨h2, h3⟩
        · exact Or.inl h
        · exact Or.inr ⟨h2, by show code π ≤ c; omega⟩
      · exact h
    · exact h
theorem pm_step_len {row : List Nat → Nat → Nat} {code : List Nat → Nat} {S : pm_S} {π : List Nat} {n : Nat} (h : S.1.length = n) (hp : π.length = n) : (pm_step row code S π).1.length = n := by
  unfold pm_step
  split
  · show (pm_rows row [] π).length = n
    rw [pm_rows_len]; exact hp
  · split
    · split
      · exact h
      · exact h
    · exact h
theorem pm_fold_len {row : List Nat → Nat → Nat} {code : List Nat → Nat} {n : Nat} : ∀ (C : List (List Nat)) (S : pm_S), S.1.length = n → (∀ π ∈ C, π.length = n) → (C.foldl (pm_step row code) S).1.length = n := by
  intro C
  induction C with
  | nil => intro S h _; exact h
  | cons π C ih =>
    intro S h hC
    exact ih _ (pm_step_len h (hC π (List.mem_cons_self))) (fun x hx => hC x (List.mem_cons_of_mem _ hx))
theorem pm_fold_seenK {row : List Nat → Nat → Nat} {code : List Nat → Nat} {r : List Nat} {c : Nat} : ∀ (C : List (List Nat)) (S : pm_S), pm_seen S r c → pm_seen (C.foldl (pm_step row code) S) r c := by
  intro C
  induction C with
  | nil => intro S h; exact h
  | cons π C ih => intro S h; exact ih _ (pm_seen_keep h)
theorem pm_fold_seen {row : List Nat → Nat → Nat} {code : List Nat → Nat} {n : Nat} : ∀ (C : List (List Nat)) (S : pm_S), S.1.length = n → (∀ π ∈ C, π.length = n) → ∀ π ∈ C, pm_seen (C.foldl (pm_step row code) S) (pm_rows row [] π) (code π) := by
  intro C
  induction C with
  | nil => intro S _ _ π hp; cases hp
  | cons x C ih =>
    intro S h hC π hp
    have hx := hC x List.mem_cons_self
    rcases List.mem_cons.mp hp with e | hp
    · subst e
      exact pm_fold_seenK C _ (pm_seen_self (by rw [h, hx]))
    · exact ih _ (pm_step_len h hx) (fun y hy => hC y (List.mem_cons_of_mem _ hy)) π hp
theorem pm_fold_noop {row : List Nat → Nat → Nat} {code : List Nat → Nat} : ∀ (C : List (List Nat)) (S : pm_S), (∀ π ∈ C, pm_seen S (pm_rows row [] π) (code π)) → C.foldl (pm_step row code) S = S := by
  intro C
  induction C with
  | nil => intro S _; rfl
  | cons x C ih =>
    intro S h
    rw [List.foldl_cons, pm_seen_noop (h x List.mem_cons_self)]
    exact ih S (fun y hy => h y (List.mem_cons_of_mem _ hy))
