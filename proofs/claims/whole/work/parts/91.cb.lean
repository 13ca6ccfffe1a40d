/-! how large a code is: two hinges share no atom -/
section CB
variable {d : pd_D} {π : List Nat}
theorem pd_hi_uni (h : pd_W d) {k1 k2 a : Nat} (h1 : k1 < pd_b d) (h2 : k2 < pd_b d) (i1 : pd_hi d k1 = true) (i2 : pd_hi d k2 = true) (c1 : pd_inc d k1 a = true) (c2 : pd_inc d k2 a = true) : k1 = k2 := by
  by_cases he : k1 = k2
  · exact he
  · exfalso
    unfold pd_hi pd_he at i1 i2
    simp only [Bool.and_eq_true, beq_iff_eq, decide_eq_true_eq] at i1 i2
    have s1 := (pd_saB_iff d (pd_f d k1) k1 (pd_b d)).mp i1.1.2.1.1.2
    have s2 := (pd_saB_iff d (pd_s d k1) k1 (pd_b d)).mp i1.2.1.1.2
    have o2 := i2.1.1
    have c1' := c1
    simp only [pd_inc, Bool.or_eq_true, beq_iff_eq] at c1'
    rcases c1' with e | e
    · have := s1 k2 h2 (by rw [e]; exact c2) (fun q => he q.symm)
      omega
    · have := s2 k2 h2 (by rw [e]; exact c2) (fun q => he q.symm)
      omega
theorem pd_j_inc3 {k a b : Nat} (hj : pd_j d k a b = true) : pd_inc d k a = true ∧ pd_inc d k b = true ∧ ((pd_f d k = a ∧ pd_s d k = b) ∨ (pd_f d k = b ∧ pd_s d k = a)) := by
  simp only [pd_j, Bool.or_eq_true, Bool.and_eq_true, beq_iff_eq] at hj
  rcases hj with ⟨h1, h2⟩ | ⟨h1, h2⟩
  · exact ⟨by simp [pd_inc, h1], by simp [pd_inc, h2], Or.inl ⟨h1, h2⟩⟩
  · exact ⟨by simp [pd_inc, h2], by simp [pd_inc, h1], Or.inr ⟨h1, h2⟩⟩
theorem cd_h_of {i j k : Nat} (h : cd_h d π i j = some k) : pd_bo d (π.getD i 0) (π.getD j 0) = some k ∧ pd_hi d k = true := by
  cases hb : pd_bo d (π.getD i 0) (π.getD j 0) with
  | none => rw [cd_h_none hb] at h; cases h
  | some k' =>
    rw [cd_h_some hb] at h
    by_cases hh : pd_hi d k' = true
    · rw [if_pos hh] at h
      cases h
      exact ⟨rfl, hh⟩
    · rw [if_neg hh] at h; cases h
theorem cd_J_one (h : pd_W d) (hp : pN d π) {i : Nat} (hi : i < pd_n d) : ∀ j, j ≤ i → cd_J d π i j = [] ∨ ∃ k j', j' < j ∧ cd_J d π i j = [k] ∧ pd_bo d (π.getD i 0) (π.getD j' 0) = some k ∧ pd_hi d k = true := by
  intro j
  induction j with
  | zero => intro _; exact Or.inl rfl
  | succ j ih =>
    intro hj
    rw [cd_J_succ]
    rcases ih (by omega) with h0 | ⟨k, j', h1, h2, h3, h4⟩
    · rw [h0]
      cases hc : cd_h d π i j with
      | none => exact Or.inl rfl
      | some k =>
        obtain ⟨q1, q2⟩ := cd_h_of hc
        exact Or.inr ⟨k, j, by omega, rfl, q1, q2⟩
    · rw [h2]
      cases hc : cd_h d π i j with
      | none => exact Or.inr ⟨k, j', by omega, rfl, h3, h4⟩
      | some k' =>
        exfalso
        obtain ⟨q1, q2⟩ := cd_h_of hc
        obtain ⟨b1, b2⟩ := pd_bo_some h3
        obtain ⟨b3, b4⟩ := pd_bo_some q1
        have i1 := pd_j_inc3 b2
        have i2 := pd_j_inc3 b4
        have ek := pd_hi_uni h b1 b3 h4 q2 i1.1 i2.1
        subst ek
        have w3 := (h.2.2.1 k b1).2.2.1
        have : π.getD j' 0 = π.getD j 0 := by
          rcases i1.2.2 with ⟨e1, e2⟩ | ⟨e1, e2⟩ <;> rcases i2.2.2 with ⟨e3, e4⟩ | ⟨e3, e4⟩ <;> omega
        have := pN_ne hp (show j' < pd_n d by omega) (show j < pd_n d by omega) this
        omega
theorem cd_H_E (h : pd_W d) (hp : pN d π) : ∀ i, i ≤ pd_n d → ∃ E : List Nat, E.Nodup ∧ E.length = 2 * (cd_H d π i).length ∧ ∀ x ∈ E, (∃ j, j < i ∧ x = π.getD j 0) ∧ ∃ k, k < pd_b d ∧ pd_hi d k = true ∧ pd_inc d k x = true ∧ (∃ j1 j2, j1 < i ∧ j2 < i ∧ pd_f d k = π.getD j1 0 ∧ pd_s d k = π.getD j2 0) := by
  intro i
  induction i with
  | zero => intro _; exact ⟨[], List.nodup_nil, rfl, fun x hx => by cases hx⟩
  | succ i ih =>
    intro hi
    have hin : i < pd_n d := by omega
    obtain ⟨E, e1, e2, e3⟩ := ih (by omega)
    have up : ∀ x ∈ E, (∃ j, j < i + 1 ∧ x = π.getD j 0) ∧ ∃ k, k < pd_b d ∧ pd_hi d k = true ∧ pd_inc d k x = true ∧ (∃ j1 j2, j1 < i + 1 ∧ j2 < i + 1 ∧ pd_f d k = π.getD j1 0 ∧ pd_s d k = π.getD j2 0) := fun x hx => by
      obtain ⟨⟨j, a1, a2⟩, k, b1, b2, b3, j1, j2, c1, c2, c3, c4⟩ := e3 x hx
      exact ⟨⟨j, by omega, a2⟩, k, b1, b2, b3, j1, j2, by omega, by omega, c3, c4⟩
    rw [cd_H_succ]
    rcases cd_J_one h hp hin i (Nat.le_refl _) with h0 | ⟨k, j, h1, h2, h3, h4⟩
    · rw [h0, List.append_nil]
      exact ⟨E, e1, e2, up⟩
    · rw [h2]
      obtain ⟨b1, b2⟩ := pd_bo_some h3
      obtain ⟨i1, i2, i3⟩ := pd_j_inc3 b2
      have hjn : j < pd_n d := by omega
      have hends : ∃ j1 j2, j1 < i + 1 ∧ j2 < i + 1 ∧ pd_f d k = π.getD j1 0 ∧ pd_s d k = π.getD j2 0 := by
        rcases i3 with ⟨q1, q2⟩ | ⟨q1, q2⟩
        · exact ⟨i, j, by omega, by omega, q1, q2⟩
        · exact ⟨j, i, by omega, by omega, q1, q2⟩
      have n1 : π.getD i 0 ∉ E := fun hx => by
        obtain ⟨⟨j', a1, a2⟩, -⟩ := e3 _ hx
        have := pN_ne hp hin (show j' < pd_n d by omega) a2
        omega
      have n2 : π.getD j 0 ∉ E := fun hx => by
        obtain ⟨-, k', c1, c2, c3, j1, j2, g1, g2, g3, g4⟩ := e3 _ hx
        have ek := pd_hi_uni h b1 c1 h4 c2 i2 c3
        subst ek
        rcases i3 with ⟨q1, q2⟩ | ⟨q1, q2⟩
        · have := pN_ne hp hin (show j1 < pd_n d by omega) (q1.symm.trans g3)
          omega
        · have := pN_ne hp hin (show j2 < pd_n d by omega) (q2.symm.trans g4)
          omega
      have n3 : π.getD i 0 ≠ π.getD j 0 := fun q => by
        have := pN_ne hp hin hjn q
        omega
      refine ⟨π.getD i 0 :: π.getD j 0 :: E, ?_, ?_, fun x hx => ?_⟩
      · rw [List.nodup_cons, List.nodup_cons]
        refine ⟨fun hx => ?_, n2, e1⟩
        rcases List.mem_cons.mp hx with q | q
        · exact n3 q
        · exact n1 q
      · rw [List.length_cons, List.length_cons, e2, List.length_append, List.length_singleton]
        omega
      · rcases List.mem_cons.mp hx with q | hx
        · subst q; exact ⟨⟨i, by omega, rfl⟩, k, b1, h4, i1, hends⟩
        · rcases List.mem_cons.mp hx with q | hx
          · subst q; exact ⟨⟨j, by omega, rfl⟩, k, b1, h4, i2, hends⟩
          · exact up x hx
theorem cd_H_len (h : pd_W d) (hp : pN d π) : 2 * (cd_H d π (pd_n d)).length ≤ pd_n d := by
  obtain ⟨E, e1, e2, e3⟩ := cd_H_E h hp (pd_n d) (Nat.le_refl _)
  have := pm_subset_len E (List.range (pd_n d)) e1 (fun x hx => by
    obtain ⟨⟨j, a1, a2⟩, -⟩ := e3 x hx
    rw [a2]
    exact List.mem_range.mpr (pN_getD hp a1))
  rw [List.length_range] at this
  omega
theorem dg_fold {g : Nat → Nat → Nat} (hg : ∀ c k, g c k ≤ 3 * c + 2) : ∀ (l : List Nat) (c : Nat), l.foldl g c + 1 ≤ (c + 1) * 3 ^ l.length := by
  intro l
  induction l with
  | nil => intro c; simp
  | cons x l ih =>
    intro c
    have h1 := ih (g c x)
    have h2 := hg c x
    have h3 : (g c x + 1) * 3 ^ l.length ≤ (3 * (c + 1)) * 3 ^ l.length := Nat.mul_le_mul_right _ (by omega)
    rw [List.foldl_cons, List.length_cons, Nat.pow_succ]
    have h4 : (c + 1) * (3 ^ l.length * 3) = (3 * (c + 1)) * 3 ^ l.length := by grind
    omega
theorem pd_dg_le (c : Nat) {s : Int} (h : p3 s) : pd_dg c s ≤ 3 * c + 2 := by
  unfold pd_dg p3 at *
  omega
theorem pd_code_lt (h : pd_W d) (hp : pN d π) {A B : Nat → Int} (hA : ∀ a, p3 (A a)) (hB : ∀ k, p3 (B k)) : pd_code d A B π < 100000 := by
  have h7 := h.1.1
  rw [pd_code_eq, hp.2]
  have h1 := dg_fold (g := cd_A d A π) (fun c a => pd_dg_le c (p3_mul (hA a) (pd_os_pm _ _ _ _))) π 0
  have h2 := dg_fold (g := cd_B d B π) (fun c k => pd_dg_le c (cd_B_p3 (hB k))) (cd_H d π (pd_n d)) (π.foldl (cd_A d A π) 0)
  have h3 := cd_H_len h hp
  rw [hp.2, Nat.zero_add, Nat.one_mul] at h1
  have h4 : (π.foldl (cd_A d A π) 0 + 1) * 3 ^ (cd_H d π (pd_n d)).length ≤ 3 ^ pd_n d * 3 ^ (cd_H d π (pd_n d)).length := Nat.mul_le_mul_right _ h1
  rw [← Nat.pow_add] at h4
  have h5 : 3 ^ (pd_n d + (cd_H d π (pd_n d)).length) ≤ 3 ^ 10 := Nat.pow_le_pow_right (by decide) (by omega)
  have h6 : (3 : Nat) ^ 10 = 59049 := by decide
  omega
end CB
