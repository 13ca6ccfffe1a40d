/-! the class: the mirrored senses -/
section CS8
theorem sp_mirror_1 : ∀ m k (σ : sf_St), k + m = 7 → ∃ τ, Rn_R_X4_mirror 1 σ (nI k) τ ∧ (∀ c, c ≠ 23 → τ c = σ c) ∧ (∀ j, j < 7 → τ 23 j = if k ≤ j then - σ 23 j else σ 23 j) := by
  intro m
  induction m with
  | zero =>
    intro k σ hk
    have hk' : k = 7 := by omega
    subst hk'
    refine ⟨σ, ?_, fun _ _ => rfl, fun j hj => by rw [if_neg (by omega)]⟩
    apply ru_R_X4_mirror_1
    unfold tr_R_X4_mirror_1
    rw [if_pos (by decide)]
  | succ m ih =>
    intro k σ hk
    obtain ⟨τ, t1, t2, t3⟩ := ih (k + 1) (sf_up σ 23 k (- σ 23 k)) (by omega)
    refine ⟨τ, ?_, fun c hc => (t2 c hc).trans (sf_up_ne _ _ _ hc), fun j hj => ?_⟩
    · apply ru_R_X4_mirror_1
      unfold tr_R_X4_mirror_1
      rw [if_neg (show ¬ (7 : Int32) ≤ nI k from nI_ge (a := k) (b := 7) (by omega) (by decide)), sp_ix (by omega)]
      simp only [forall_eq, sp_inc]
      exact ⟨sp_in (by omega) (by decide), sp_in (by omega) (by decide), t1⟩
    · rw [t3 j hj, sf_up_at, if_pos rfl]
      by_cases hjk : j = k
      · subst hjk; rw [if_neg (by omega), if_pos rfl, if_pos (Nat.le_refl _)]
      · rw [if_neg hjk]
        by_cases h1 : k ≤ j
        · rw [if_pos (by omega), if_pos h1]
        · rw [if_neg (by omega), if_neg h1]
theorem sp_mirror (σ : sf_St) : ∃ τ, R_X4_mirror σ τ ∧ (∀ c, c ≠ 23 → τ c = σ c) ∧ (∀ j, j < 7 → τ 23 j = - σ 23 j) := by
  obtain ⟨τ, t1, t2, t3⟩ := sp_mirror_1 7 0 σ (by omega)
  refine ⟨τ, ?_, t2, fun j hj => by rw [t3 j hj, if_pos (Nat.zero_le _)]⟩
  unfold R_X4_mirror
  apply ru_R_X4_mirror_0
  unfold tr_R_X4_mirror_0
  exact t1
end CS8
