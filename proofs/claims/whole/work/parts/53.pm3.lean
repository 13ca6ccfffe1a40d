/-! the other way to go through the numberings: one list of all of them, those of the least rows are kept -/
def pm_rst (row : List Nat → Nat → Nat) (A : List Nat × List (List Nat)) (π : List Nat) : List Nat × List (List Nat) :=
  if A.2 = [] then (pm_rows row [] π, [π])
  else if pm_lt (pm_rows row [] π) A.1 = true then (pm_rows row [] π, [π])
  else if pm_rows row [] π = A.1 then (A.1, A.2 ++ [π]) else A
def pm_mf (code : List Nat → Nat) (ms : List (List Nat)) (S : Nat × List Nat) : Nat × List Nat := ms.foldl (fun S π => if code π < S.1 then (code π, π) else S) S
theorem pm_link {n : Nat} {row : List Nat → Nat → Nat} {code : List Nat → Nat} (b0 : List Nat) (hrow : ∀ a t, pm_ok n (a :: t) → row [] a < pm_OP) (hcode : ∀ π, pm_ok n π → π.length = n → code π < pm_OP) :
    ∀ (C : List (List Nat)) (A : List Nat × List (List Nat)) (S : pm_S), (∀ π ∈ C, pm_ok n π ∧ π.length = n) →
      ((A.2 = [] ∧ S = (List.replicate n pm_OP, pm_OP, b0)) ∨ (A.2 ≠ [] ∧ S.1 = A.1 ∧ S.2 = pm_mf code A.2 (pm_OP, b0))) →
      (((C.foldl (pm_rst row) A).2 = [] ∧ C.foldl (pm_step row code) S = (List.replicate n pm_OP, pm_OP, b0)) ∨ ((C.foldl (pm_rst row) A).2 ≠ [] ∧ (C.foldl (pm_step row code) S).1 = (C.foldl (pm_rst row) A).1 ∧ (C.foldl (pm_step row code) S).2 = pm_mf code (C.foldl (pm_rst row) A).2 (pm_OP, b0))) := by
  intro C
  induction C with
  | nil => intro A S _ h; exact h
  | cons π C ih =>
    intro A S hC h
    obtain ⟨ho, hl⟩ := hC π List.mem_cons_self
    have hcp := hcode π ho hl
    rw [List.foldl_cons, List.foldl_cons]
    refine ih _ _ (fun x hx => hC x (List.mem_cons_of_mem _ hx)) (Or.inr ?_)
    have e1 : pm_mf code [π] (pm_OP, b0) = (code π, π) := by simp [pm_mf, hcp]
    rcases h with ⟨h1, h2⟩ | ⟨h1, h2, h3⟩
    · subst h2
      have hr : pm_rst row A π = (pm_rows row [] π, [π]) := by unfold pm_rst; rw [if_pos h1]
      have hs : pm_step row code (List.replicate n pm_OP, pm_OP, b0) π = (pm_rows row [] π, code π, π) := by
        unfold pm_step
        cases π with
        | nil =>
          have hn : n = 0 := by simpa using hl.symm
          subst hn
          simp [pm_rows, pm_lt, hcp]
        | cons a t =>
          have ha := hrow a t ho
          have hn : ∃ j, n = j + 1 := ⟨t.length, by rw [← hl]; rfl⟩
          obtain ⟨j, rfl⟩ := hn
          rw [if_pos]
          simp [pm_rows, pm_lt, List.replicate_succ, ha]
      rw [hr, hs]
      exact ⟨by simp, rfl, e1.symm⟩
    · unfold pm_rst pm_step
      rw [if_neg h1, h2]
      by_cases g1 : pm_lt (pm_rows row [] π) A.1 = true
      · rw [if_pos g1, if_pos g1]
        exact ⟨by simp, rfl, e1.symm⟩
      · rw [if_neg g1, if_neg g1]
        by_cases g2 : pm_rows row [] π = A.1
        · rw [if_pos g2, if_pos g2]
          refine ⟨by simp, ?_, ?_⟩
          · split
            · rfl
            · exact h2
          · have e2 : pm_mf code (A.2 ++ [π]) (pm_OP, b0) = if code π < S.2.1 then (code π, π) else S.2 := by
              unfold pm_mf
              rw [List.foldl_append]
              show (if code π < (pm_mf code A.2 (pm_OP, b0)).1 then (code π, π) else pm_mf code A.2 (pm_OP, b0)) = _
              rw [← h3]
            show _ = pm_mf code (A.2 ++ [π]) (pm_OP, b0)
            rw [e2]
            split <;> rfl
        · rw [if_neg g2, if_neg g2]
          exact ⟨h1, h2, h3⟩
/-- those that are kept are those whose rows are the least, in their order -/
theorem pm_kept {n : Nat} {row : List Nat → Nat → Nat} : ∀ (C B : List (List Nat)) (A : List Nat × List (List Nat)), (∀ π ∈ C, π.length = n) →
    ((A.2 = [] ∧ B = []) ∨ (A.2 ≠ [] ∧ A.1.length = n ∧ A.2 = B.filter (fun π => decide (pm_rows row [] π = A.1)) ∧ ∀ π ∈ B, pm_lt (pm_rows row [] π) A.1 = false)) →
    (((C.foldl (pm_rst row) A).2 = [] ∧ B ++ C = []) ∨ ((C.foldl (pm_rst row) A).2 ≠ [] ∧ (C.foldl (pm_rst row) A).1.length = n ∧ (C.foldl (pm_rst row) A).2 = (B ++ C).filter (fun π => decide (pm_rows row [] π = (C.foldl (pm_rst row) A).1)) ∧ ∀ π ∈ B ++ C, pm_lt (pm_rows row [] π) (C.foldl (pm_rst row) A).1 = false)) := by
  intro C
  induction C with
  | nil => intro B A _ h; rw [List.append_nil]; exact h
  | cons π C ih =>
    intro B A hC h
    have hl := hC π List.mem_cons_self
    have e : B ++ π :: C = (B ++ [π]) ++ C := by simp
    rw [List.foldl_cons, e]
    refine ih (B ++ [π]) _ (fun x hx => hC x (List.mem_cons_of_mem _ hx)) (Or.inr ?_)
    have hlr : (pm_rows row [] π).length = n := by rw [pm_rows_len]; exact hl
    rcases h with ⟨h1, h2⟩ | ⟨h1, h2, h3, h4⟩
    · subst h2
      have hr : pm_rst row A π = (pm_rows row [] π, [π]) := by unfold pm_rst; rw [if_pos h1]
      rw [hr]
      refine ⟨by simp, hlr, by simp, ?_⟩
      intro x hx
      have : x = π := by simpa using hx
      subst this
      exact pm_lt_irr _
    · unfold pm_rst
      rw [if_neg h1]
      by_cases g1 : pm_lt (pm_rows row [] π) A.1 = true
      · rw [if_pos g1]
        have hno : ∀ x ∈ B, ¬ pm_rows row [] x = pm_rows row [] π := by
          intro x hx ex
          have := h4 x hx
          rw [ex, g1] at this
          cases this
        refine ⟨by simp, hlr, ?_, ?_⟩
        · show [π] = _
          rw [List.filter_append]
          have : B.filter (fun x => decide (pm_rows row [] x = pm_rows row [] π)) = [] := List.filter_eq_nil_iff.mpr (fun x hx => by simpa using hno x hx)
          rw [this]
          simp
        · intro x hx
          rcases List.mem_append.mp hx with hx | hx
          · cases hq : pm_lt (pm_rows row [] x) (pm_rows row [] π) with
            | false => rfl
            | true =>
              have := pm_lt_trans _ _ _ hq g1
              rw [h4 x hx] at this
              cases this
          · have : x = π := by simpa using hx
            subst this
            exact pm_lt_irr _
      · rw [if_neg g1]
        have g1' : pm_lt (pm_rows row [] π) A.1 = false := by simpa using g1
        have hall : ∀ x ∈ B ++ [π], pm_lt (pm_rows row [] x) A.1 = false := by
          intro x hx
          rcases List.mem_append.mp hx with hx | hx
          · exact h4 x hx
          · have : x = π := by simpa using hx
            subst this
            exact g1'
        by_cases g2 : pm_rows row [] π = A.1
        · rw [if_pos g2]
          refine ⟨by simp, h2, ?_, hall⟩
          show A.2 ++ [π] = _
          rw [List.filter_append, ← h3]
          simp [g2]
        · rw [if_neg g2]
          refine ⟨h1, h2, ?_, hall⟩
          rw [List.filter_append, ← h3]
          simp [g2]
/-- the least rows are known: only those that have them count -/
theorem pm_again {n : Nat} {row : List Nat → Nat → Nat} {code : List Nat → Nat} {R : List Nat} (hR : R.length = n) : ∀ (C : List (List Nat)) (s : Nat × List Nat), (∀ π ∈ C, π.length = n ∧ pm_lt (pm_rows row [] π) R = false) →
    C.foldl (pm_step row code) (R, s) = (R, pm_mf code (C.filter (fun π => decide (pm_rows row [] π = R))) s) := by
  intro C
  induction C with
  | nil => intro s _; rfl
  | cons π C ih =>
    intro s hC
    obtain ⟨hl, hlt⟩ := hC π List.mem_cons_self
    have hC' : ∀ π ∈ C, π.length = n ∧ pm_lt (pm_rows row [] π) R = false := fun x hx => hC x (List.mem_cons_of_mem _ hx)
    rw [List.foldl_cons]
    by_cases g : pm_rows row [] π = R
    · rw [List.filter_cons_of_pos (by simpa using g)]
      have hs : pm_step row code (R, s) π = (R, if code π < s.1 then (code π, π) else s) := by
        unfold pm_step
        rw [if_neg (by rw [hlt]; decide), if_pos g]
        split <;> rfl
      rw [hs, ih _ hC']
      rfl
    · rw [List.filter_cons_of_neg (by simpa using g)]
      have hs : pm_step row code (R, s) π = (R, s) := by
        unfold pm_step
        rw [if_neg (by rw [hlt]; decide), if_neg g]
      rw [hs, ih _ hC']
/-! the next numbering -/
def pm_fi (p : List Nat) : Nat → Option Nat
  | 0 => none
  | i + 1 => if p.getD (i + 1) 0 < p.getD i 0 then pm_fi p i else some i
def pm_fj (p : List Nat) (x : Nat) : Nat → Nat
  | 0 => 0
  | j + 1 => if p.getD (j + 1) 0 < x then pm_fj p x j else j + 1
def pm_sw (p : List Nat) (i j : Nat) : List Nat := (p.set i (p.getD j 0)).set j (p.getD i 0)
def pm_rv (n i : Nat) : Nat → Nat → List Nat → List Nat
  | 0, _, p => p
  | f + 1, k, p => if i + k < n - k then pm_rv n i f (k + 1) (pm_sw p (i + k) (n - k)) else p
def pm_nx (n : Nat) (p : List Nat) : Option (List Nat) := match pm_fi p (n - 1) with
  | none => none
  | some i => some (pm_rv n i n 1 (pm_sw p i (pm_fj p (p.getD i 0) (n - 1))))
def pm_seq (n : Nat) : Nat → List Nat → List (List Nat)
  | 0, _ => []
  | f + 1, p => p :: (match pm_nx n p with | none => [] | some p' => pm_seq n f p')
def pm_eqL : List Nat → List Nat → Bool
  | [], [] => true
  | a :: s, b :: t => Nat.beq a b && pm_eqL s t
  | _, _ => false
def pm_nxb (n : Nat) (p q : List Nat) : Bool := match pm_nx n p with
  | none => false
  | some r => pm_eqL r q
def pm_chk (n : Nat) : List (List Nat) → Bool
  | [] => true
  | [_] => true
  | p :: q :: t => pm_nxb n p q && pm_chk n (q :: t)
set_option maxRecDepth 100000 in
theorem pm_chk_5 : pm_chk 7 (pm_ext 7 6 [2]) = true := by decide +kernel
