/-! bounds of what is known of a drawing -/
section KB
variable {d : pd_D}
theorem pd_K_R (h : pd_W d) : ∃ π, pN d π ∧ pd_R d π = (pd_K d).1 := by
  have hk := pm_kept (n := pd_n d) (row := pd_row d) (pm_ext (pd_n d) (pd_n d) []) [] ([], []) (fun π hπ => (pd_all_ok π hπ).2) (Or.inl ⟨rfl, rfl⟩)
  rcases hk with ⟨q, -⟩ | ⟨q0, q1, q2, q3⟩
  · exact absurd q (pd_K_ne d)
  · have hne := pd_K_ne d
    cases hK : (pd_K d).2 with
    | nil => exact absurd hK hne
    | cons π l =>
      have hm : π ∈ (pd_K d).2 := by rw [hK]; exact List.mem_cons_self
      have hm' : π ∈ ([] ++ pm_ext (pd_n d) (pd_n d) []).filter (fun π => decide (pm_rows (pd_row d) [] π = (pd_K d).1)) := by
        have e : (pd_K d).2 = ([] ++ pm_ext (pd_n d) (pd_n d) []).filter (fun π => decide (pm_rows (pd_row d) [] π = (pd_K d).1)) := q2
        rw [← e]; exact hm
      have := (List.mem_filter.mp hm').2
      exact ⟨π, pd_K_pN hm, of_decide_eq_true this⟩
theorem pd_K1_len (h : pd_W d) : (pd_K d).1.length = pd_n d := by
  obtain ⟨π, h1, h2⟩ := pd_K_R h
  rw [← h2, pd_R_len h1]
theorem pd_K1_le (h : pd_W d) (i : Nat) : (pd_K d).1.getD i 0 ≤ pm_OP := by
  obtain ⟨π, h1, h2⟩ := pd_K_R h
  have := pd_R_lt h h1 i
  rw [h2] at this
  have hop : pm_OP = 2147483647 := rfl
  omega
theorem pd_mf_lt (h : pd_W d) {A B : Nat → Int} (hA : ∀ a, p3 (A a)) (hB : ∀ k, p3 (B k)) : (pd_mf d A B).1 < 100000 := by
  unfold pd_mf
  rw [pm_mf_1]
  cases hK : (pd_K d).2 with
  | nil => exact absurd hK (pd_K_ne d)
  | cons π l =>
    have hm : π ∈ (pd_K d).2 := by rw [hK]; exact List.mem_cons_self
    have hc := pd_code_lt h (pd_K_pN hm) hA hB
    have hop : pm_OP = 2147483647 := rfl
    show ml (pd_code d A B) (if pd_code d A B π < pm_OP then pd_code d A B π else pm_OP) l < 100000
    rw [if_pos (by omega)]
    have := ml_le (pd_code d A B) l (pd_code d A B π)
    omega
theorem pd_cs_al (h : pd_W d) {a : Nat} (ha : a < pd_n d) (hal : pd_al d a = true) : pd_cs d a = 0 := by
  unfold pd_cs
  by_cases hce : pd_ce d a = true
  · exfalso
    have h34 := pd_ce_34 h ha hce
    have : pd_nl d a (pd_n d) = [] := by
      unfold pd_nl
      rw [List.filter_eq_nil_iff]
      intro b _
      rw [pd_al_no h ha hal b]
      simp
    rw [this] at h34
    simp at h34
  · rw [if_neg hce]
theorem pm_mf_mem (code : List Nat → Nat) : ∀ (l : List (List Nat)) (S : Nat × List Nat), (pm_mf code l S) = S ∨ (pm_mf code l S).2 ∈ l := by
  intro l
  induction l with
  | nil => intro S; exact Or.inl rfl
  | cons p l ih =>
    intro S
    have e : pm_mf code (p :: l) S = pm_mf code l (if code p < S.1 then (code p, p) else S) := rfl
    rw [e]
    rcases ih (if code p < S.1 then (code p, p) else S) with q | q
    · rw [q]
      by_cases hc : code p < S.1
      · rw [if_pos hc]; exact Or.inr List.mem_cons_self
      · rw [if_neg hc]; exact Or.inl rfl
    · exact Or.inr (List.mem_cons_of_mem _ q)
theorem pd_mf_pN (h : pd_W d) {A B : Nat → Int} (hA : ∀ a, p3 (A a)) (hB : ∀ k, p3 (B k)) : pN d (pd_mf d A B).2 := by
  have hlt := pd_mf_lt h hA hB
  rcases pm_mf_mem (pd_code d A B) (pd_K d).2 (pm_OP, []) with q | q
  · have e : pd_mf d A B = (pm_OP, []) := q
    rw [e] at hlt
    exact absurd hlt (by decide)
  · exact pd_K_pN q
end KB
