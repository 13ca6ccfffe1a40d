/-! pm_pl: the least rows and the first least code -/
section KF
variable {d : pd_D}
theorem pd_row_op (h : pd_W d) : ∀ p b, pm_ok (pd_n d) (p ++ [b]) → pd_row d p b < pm_OP := by
  intro p b hok
  have h7 := h.1.1
  have hl := pm_ok_len hok
  rw [List.length_append, List.length_singleton] at hl
  have := pd_row_lt h (pre := p) (hok.2 b (by simp)) (by omega)
  have hop : pm_OP = 2147483647 := rfl
  omega
theorem pd_code_op (h : pd_W d) {A B : Nat → Int} (hA : ∀ a, p3 (A a)) (hB : ∀ k, p3 (B k)) : ∀ π, pm_ok (pd_n d) π → π.length = pd_n d → pd_code d A B π < pm_OP := by
  intro π h1 h2
  have := pd_code_lt h (π := π) ⟨h1, h2⟩ hA hB
  have hop : pm_OP = 2147483647 := rfl
  omega
theorem pm_nil_ok (n : Nat) : pm_ok n [] := ⟨List.nodup_nil, fun a ha => by cases ha⟩
theorem pd_K_ne (d : pd_D) : (pd_K d).2 ≠ [] := pm_rfold_ne _ _ _ (Or.inl (pm_ext_ne _ _ _ (by simp)))
theorem pd_all_ok (π : List Nat) (hπ : π ∈ pm_ext (pd_n d) (pd_n d) []) : pm_ok (pd_n d) π ∧ π.length = pd_n d := by
  have := pN_ext (d := d) (pm_nil_ok _) (by simp) hπ
  exact ⟨this.1, this.2⟩
theorem pd_first (h : pd_W d) {A B : Nat → Int} (hA : ∀ a, p3 (A a)) (hB : ∀ k, p3 (B k)) (h0 : ∀ a, a < pd_n d → pd_al d a = true → A a = 0) : pm_pl (pd_n d) (pd_row d) (pd_code d A B) (pd_al d) (pd_n d) [] (List.replicate (pd_n d) pm_OP, pm_OP, []) = ((pd_K d).1, pd_mf d A B) := by
  rw [pm_pl_eq (pd_row_op h) (pd_code_op h hA hB) (pd_hal h h0) (pd_n d) [] _ (pm_nil_ok _) (by simp) (by simp) (by simp [pm_rows])]
  have hr : ∀ a t, pm_ok (pd_n d) (a :: t) → pd_row d [] a < pm_OP := by
    intro a t ht
    refine pd_row_op h [] a ⟨by simp, fun x hx => ?_⟩
    have e : x = a := by simpa using hx
    rw [e]
    exact ht.2 a (by simp)
  have := pm_link (n := pd_n d) (row := pd_row d) (code := pd_code d A B) [] hr (pd_code_op h hA hB) (pm_ext (pd_n d) (pd_n d) []) ([], []) (List.replicate (pd_n d) pm_OP, pm_OP, []) pd_all_ok (Or.inl ⟨rfl, rfl⟩)
  rcases this with ⟨q, -⟩ | ⟨-, q1, q2⟩
  · exact absurd q (pd_K_ne d)
  · exact Prod.ext q1 q2
theorem pd_second (h : pd_W d) {A B : Nat → Int} (hA : ∀ a, p3 (A a)) (hB : ∀ k, p3 (B k)) (h0 : ∀ a, a < pd_n d → pd_al d a = true → A a = 0) : pm_pl (pd_n d) (pd_row d) (pd_code d A B) (pd_al d) (pd_n d) [] ((pd_K d).1, pm_OP, []) = ((pd_K d).1, pd_mf d A B) := by
  have hk := pm_kept (n := pd_n d) (row := pd_row d) (pm_ext (pd_n d) (pd_n d) []) [] ([], []) (fun π hπ => (pd_all_ok π hπ).2) (Or.inl ⟨rfl, rfl⟩)
  rcases hk with ⟨q, -⟩ | ⟨-, q1, q2, q3⟩
  · exact absurd q (pd_K_ne d)
  · rw [List.nil_append] at q2 q3
    rw [pm_pl_eq (pd_row_op h) (pd_code_op h hA hB) (pd_hal h h0) (pd_n d) [] _ (pm_nil_ok _) (by simp) q1 (by simp [pm_rows])]
    have := pm_again (row := pd_row d) (code := pd_code d A B) q1 (pm_ext (pd_n d) (pd_n d) []) (pm_OP, []) (fun π hπ => ⟨(pd_all_ok π hπ).2, q3 π hπ⟩)
    rw [← q2] at this
    exact this
end KF
