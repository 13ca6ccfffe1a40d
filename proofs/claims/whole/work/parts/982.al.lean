/-! an atom alone has no bonds -/
section AL
variable {d : pd_D}
theorem pd_sum_ge (f : Nat → Nat) {k : Nat} : ∀ n, k < n → f k ≤ pd_sum f n := by
  intro n
  induction n with
  | zero => intro h; omega
  | succ n ih =>
    intro h
    show f k ≤ pd_sum f n + f n
    by_cases hk : k = n
    · subst hk; omega
    · have := ih (by omega); omega
theorem pd_v_pos : ∀ e, e < 6 → 1 ≤ pd_v e := by decide
theorem pd_al_no (h : pd_W d) {a : Nat} (ha : a < pd_n d) (hal : pd_al d a = true) (b : Nat) : pd_bo d a b = none := by
  cases hb : pd_bo d a b with
  | none => rfl
  | some k =>
    exfalso
    obtain ⟨hk, hj⟩ := pd_bo_some hb
    have hi := (pd_j_inc3 hj).1
    have ho := (h.2.2.1 k hk).2.2.2.1
    have hs := pd_sum_ge (fun k => if pd_inc d k a = true then pd_o d k else 0) (pd_b d) hk
    have hs' : (if pd_inc d k a = true then pd_o d k else 0) ≤ pd_use d a := hs
    rw [if_pos hi] at hs'
    have hv := pd_v_pos _ (h.2.1 a ha).1
    unfold pd_al pd_lf at hal
    simp only [decide_eq_true_eq] at hal
    omega
end AL
