/-! every numbering is followed by the next one: seen one by one -/
def pm_nq (n : Nat) (p : List Nat) (q : Option (List Nat)) : Bool := match pm_nx n p, q with
  | none, none => true
  | some r, some s => pm_eqL r s
  | _, _ => false
def pm_ck (n : Nat) (q : Option (List Nat)) : List (List Nat) → Bool
  | [] => true
  | [p] => pm_nq n p q
  | p :: p' :: t => pm_nq n p (some p') && pm_ck n q (p' :: t)
theorem pm_eqL_eq : ∀ s t : List Nat, pm_eqL s t = true → s = t := by
  intro s
  induction s with
  | nil =>
    intro t h
    cases t with
    | nil => rfl
    | cons b t => cases h
  | cons a s ih =>
    intro t h
    cases t with
    | nil => cases h
    | cons b t =>
      simp only [pm_eqL, Bool.and_eq_true] at h
      rw [Nat.eq_of_beq_eq_true h.1, ih t h.2]
theorem pm_nq_eq {n : Nat} {p : List Nat} {q : Option (List Nat)} (h : pm_nq n p q = true) : pm_nx n p = q := by
  unfold pm_nq at h
  split at h
  · rename_i e; rw [e]
  · rename_i r s e; rw [e, pm_eqL_eq _ _ h]
  · cases h
set_option maxRecDepth 100000 in
theorem pm_ck7_0 : pm_ck 7 (some [1, 0, 2, 3, 4, 5, 6]) (pm_ext 7 6 [0]) = true := by decide +kernel
set_option maxRecDepth 100000 in
theorem pm_ck7_1 : pm_ck 7 (some [2, 0, 1, 3, 4, 5, 6]) (pm_ext 7 6 [1]) = true := by decide +kernel
set_option maxRecDepth 100000 in
theorem pm_ck7_2 : pm_ck 7 (some [3, 0, 1, 2, 4, 5, 6]) (pm_ext 7 6 [2]) = true := by decide +kernel
set_option maxRecDepth 100000 in
theorem pm_ck7_3 : pm_ck 7 (some [4, 0, 1, 2, 3, 5, 6]) (pm_ext 7 6 [3]) = true := by decide +kernel
set_option maxRecDepth 100000 in
theorem pm_ck7_4 : pm_ck 7 (some [5, 0, 1, 2, 3, 4, 6]) (pm_ext 7 6 [4]) = true := by decide +kernel
set_option maxRecDepth 100000 in
theorem pm_ck7_5 : pm_ck 7 (some [6, 0, 1, 2, 3, 4, 5]) (pm_ext 7 6 [5]) = true := by decide +kernel
set_option maxRecDepth 100000 in
theorem pm_ck7_6 : pm_ck 7 none (pm_ext 7 6 [6]) = true := by decide +kernel
set_option maxRecDepth 100000 in
theorem pm_ck1 : pm_ck 1 none (pm_ext 1 1 []) = true := by decide +kernel
set_option maxRecDepth 100000 in
theorem pm_ck2 : pm_ck 2 none (pm_ext 2 2 []) = true := by decide +kernel
set_option maxRecDepth 100000 in
theorem pm_ck3 : pm_ck 3 none (pm_ext 3 3 []) = true := by decide +kernel
set_option maxRecDepth 100000 in
theorem pm_ck4 : pm_ck 4 none (pm_ext 4 4 []) = true := by decide +kernel
set_option maxRecDepth 100000 in
theorem pm_ck5 : pm_ck 5 none (pm_ext 5 5 []) = true := by decide +kernel
set_option maxRecDepth 100000 in
theorem pm_ck6 : pm_ck 6 none (pm_ext 6 6 []) = true := by decide +kernel
theorem pm_hd7_0 : (pm_ext 7 6 [0]).head? = some [0, 1, 2, 3, 4, 5, 6] := by decide +kernel
set_option maxRecDepth 100000 in
theorem pm_len7_0 : (pm_ext 7 6 [0]).length = 720 := by decide +kernel
theorem pm_hd7_1 : (pm_ext 7 6 [1]).head? = some [1, 0, 2, 3, 4, 5, 6] := by decide +kernel
set_option maxRecDepth 100000 in
theorem pm_len7_1 : (pm_ext 7 6 [1]).length = 720 := by decide +kernel
theorem pm_hd7_2 : (pm_ext 7 6 [2]).head? = some [2, 0, 1, 3, 4, 5, 6] := by decide +kernel
set_option maxRecDepth 100000 in
theorem pm_len7_2 : (pm_ext 7 6 [2]).length = 720 := by decide +kernel
theorem pm_hd7_3 : (pm_ext 7 6 [3]).head? = some [3, 0, 1, 2, 4, 5, 6] := by decide +kernel
set_option maxRecDepth 100000 in
theorem pm_len7_3 : (pm_ext 7 6 [3]).length = 720 := by decide +kernel
theorem pm_hd7_4 : (pm_ext 7 6 [4]).head? = some [4, 0, 1, 2, 3, 5, 6] := by decide +kernel
set_option maxRecDepth 100000 in
theorem pm_len7_4 : (pm_ext 7 6 [4]).length = 720 := by decide +kernel
theorem pm_hd7_5 : (pm_ext 7 6 [5]).head? = some [5, 0, 1, 2, 3, 4, 6] := by decide +kernel
set_option maxRecDepth 100000 in
theorem pm_len7_5 : (pm_ext 7 6 [5]).length = 720 := by decide +kernel
theorem pm_hd7_6 : (pm_ext 7 6 [6]).head? = some [6, 0, 1, 2, 3, 4, 5] := by decide +kernel
set_option maxRecDepth 100000 in
theorem pm_len7_6 : (pm_ext 7 6 [6]).length = 720 := by decide +kernel
theorem pm_hd1 : (pm_ext 1 1 []).head? = some (List.range 1) := by decide +kernel
set_option maxRecDepth 100000 in
theorem pm_len1 : (pm_ext 1 1 []).length ≤ 5040 := by decide +kernel
theorem pm_hd2 : (pm_ext 2 2 []).head? = some (List.range 2) := by decide +kernel
set_option maxRecDepth 100000 in
theorem pm_len2 : (pm_ext 2 2 []).length ≤ 5040 := by decide +kernel
theorem pm_hd3 : (pm_ext 3 3 []).head? = some (List.range 3) := by decide +kernel
set_option maxRecDepth 100000 in
theorem pm_len3 : (pm_ext 3 3 []).length ≤ 5040 := by decide +kernel
theorem pm_hd4 : (pm_ext 4 4 []).head? = some (List.range 4) := by decide +kernel
set_option maxRecDepth 100000 in
theorem pm_len4 : (pm_ext 4 4 []).length ≤ 5040 := by decide +kernel
theorem pm_hd5 : (pm_ext 5 5 []).head? = some (List.range 5) := by decide +kernel
set_option maxRecDepth 100000 in
theorem pm_len5 : (pm_ext 5 5 []).length ≤ 5040 := by decide +kernel
theorem pm_hd6 : (pm_ext 6 6 []).head? = some (List.range 6) := by decide +kernel
set_option maxRecDepth 100000 in
theorem pm_len6 : (pm_ext 6 6 []).length ≤ 5040 := by decide +kernel
