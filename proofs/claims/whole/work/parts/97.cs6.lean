/-! the class's search: its begin, the least senses -/
section CS6
variable {d : pd_D} {σ : sf_St}
theorem sp_begin_1 (h : pd_W d) : ∀ m k (σ : sf_St), k + m = pd_n d → cD d σ → (∀ a, a < k → σ 35 a = nI (pd_hd d a)) → ∃ τ, Rn_R_X3_begin 1 σ (nI k) τ ∧ (∀ c, c ≠ 35 → τ c = σ c) ∧ cHd d τ := by
  have h7 := h.1.1
  intro m
  induction m with
  | zero =>
    intro k σ hk hc hH
    have hk' : k = pd_n d := by omega
    subst hk'
    refine ⟨σ, ?_, fun _ _ => rfl, hH⟩
    apply ru_R_X3_begin_1
    unfold tr_R_X3_begin_1
    rw [hc.1.1, if_pos (nI_le (by omega) (by omega))]
  | succ m ih =>
    intro k σ hk hc hH
    have hkn : k < pd_n d := by omega
    obtain ⟨τ, t1, t2, t3⟩ := ih (k + 1) (sf_up σ 35 k (nI (pd_hd d k))) (by omega) (cD_fr hc (fun c h1 h2 => sf_up_ne σ _ _ (by omega))) (fun a ha => by
      rw [sf_up_at, if_pos rfl]
      by_cases hak : a = k
      · subst hak; rw [if_pos rfl]
      · rw [if_neg hak]; exact hH a (by omega))
    refine ⟨τ, ?_, fun c hc => (t2 c hc).trans (sf_up_ne _ _ _ hc), t3⟩
    apply ru_R_X3_begin_1
    unfold tr_R_X3_begin_1
    rw [hc.1.1, if_neg (nI_ge (by omega) (by omega)), sp_ix (by omega), (hc.2.1 k hkn).1]
    refine ⟨sp_in (by omega) (by decide), _, σ, sp_freeValence h hc hkn, sp_in (by omega) (by decide), ?_⟩
    have e8 : (8 : Int32) * nI (pd_e d k) = nI (8 * pd_e d k) := pk_mul 8 _
    have e9 : ∀ m, (65536 : Int32) * nI m = nI (65536 * m) := fun m => pk_mul 65536 m
    rw [e8, nI_add, e9]
    simp only [forall_eq, sp_inc]
    exact t1
theorem sp_begin (h : pd_W d) (hc : cD d σ) : ∃ τ, R_X3_begin σ τ ∧ (∀ c, c ≠ 28 → c ≠ 35 → τ c = σ c) ∧ (∀ j, j < 7 → τ 28 j = nI pm_OP) ∧ cHd d τ := by
  obtain ⟨σ1, f1, f2, f3⟩ := sp_fill 28 2147483647 σ
  obtain ⟨τ, t1, t2, t3⟩ := sp_begin_1 h (pd_n d) 0 σ1 (by omega) (cD_fr hc (fun c h1 h2 => f2 c (by omega))) (fun a ha => by omega)
  refine ⟨τ, ?_, fun c h1 h2 => (t2 c h2).trans (f2 c h1), fun j hj => by rw [t2 28 (by decide)]; exact f3 j hj, t3⟩
  unfold R_X3_begin
  apply ru_R_X3_begin_0
  unfold tr_R_X3_begin_0
  exact ⟨σ1, f1, t1⟩
theorem sp_nRemoveAll (h7 : pd_n d ≤ 7) : ∃ τ, R_X2_removeAll σ τ ∧ (∀ c, c ≠ 33 → c ≠ 34 → τ c = σ c) ∧ cP d [] τ := by
  obtain ⟨σ1, f1, f2, f3⟩ := sp_fill 33 (-1) σ
  obtain ⟨σ2, g1, g2, g3⟩ := sp_fill 34 (-1) σ1
  refine ⟨σ2, ?_, fun c h1 h2 => (g2 c h2).trans (f2 c h1), fun j hj => absurd hj (Nat.not_lt_zero _), fun a ha => ?_⟩
  · unfold R_X2_removeAll
    exact ⟨σ1, f1, σ2, g1, rfl⟩
  · rw [if_neg (by simp)]
    exact g3 a (by omega)
theorem sp_leastSenses (h : pd_W d) {sa sb sh sr : Nat} {A B : Nat → Int} (za : cz sa) (zb : cz sb) (zh : cz sh) (hA : ∀ a, p3 (A a)) (hB : ∀ k, p3 (B k)) (hW : cW d sa sb sh A B σ) {R : List Nat} (b : List Nat) (hR : R.length = pd_n d) (hRb : ∀ i, R.getD i 0 ≤ pm_OP) (h28 : ∀ i, i < pd_n d → σ 28 i = nI (R.getD i 0)) :
    ∃ τ, R_X3_leastSenses sa sb sh sr σ (nI (pm_pl (pd_n d) (pd_row d) (pd_code d A B) (pd_al d) (pd_n d) [] (R, pm_OP, b)).2.1) τ ∧ cf σ τ ∧ cQ d (pm_pl (pd_n d) (pd_row d) (pd_code d A B) (pd_al d) (pd_n d) [] (R, pm_OP, b)) τ := by
  have h7 := h.1.1
  obtain ⟨σ2, g1, g2, g3⟩ := sp_nRemoveAll (σ := sf_up σ 27 4 2147483647) h7
  have f1 : cf σ σ2 := ⟨fun c a1 _ _ _ a5 a6 => (g2 c a5 a6).trans (sf_up_ne _ _ _ a1), fun j hj => by rw [g2 27 (by decide) (by decide), sf_up_at, if_pos rfl, if_neg hj]⟩
  obtain ⟨τ, t1, t2, t3, t4, t5⟩ := sp_place (sr := sr) h za zb zh hA hB (pd_n d) 8 [] (R, pm_OP, b) σ2 (by simp) (by omega) ⟨List.nodup_nil, fun a ha => by cases ha⟩ (cW_fr za zb zh hW f1) g3 ⟨fun i hi => by rw [g2 28 (by decide) (by decide), sf_up_ne _ _ _ (by decide)]; exact h28 i hi, by rw [g2 27 (by decide) (by decide)]; rfl, fun q => absurd q (Nat.lt_irrefl _)⟩ ⟨hR, hRb, Nat.le_refl _⟩
  refine ⟨τ, ?_, cf_t f1 t2, t4⟩
  unfold R_X3_leastSenses
  intro s1 e1
  subst e1
  exact ⟨σ2, g1, τ, t1, t4.2.1.symm, rfl⟩
end CS6
