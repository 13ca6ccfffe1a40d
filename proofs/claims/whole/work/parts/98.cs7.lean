/-! the class: the own senses are read -/
section CS7
variable {d : pd_D}
theorem sn_nar (b : Bool) : vp_nar .boolean (if b = true then (1 : Int32) else 0) = if b = true then 1 else 0 := by
  cases b <;> decide
theorem sp_read_2 (h : pd_W d) : ∀ m k (σ : sf_St), k + m = pd_b d → cD d σ → (∀ j, j < k → σ 19 j = iI (pd_hs d j) ∧ σ 20 j = if pd_hi d j = true then 1 else 0) → (∀ j, j < 9 → σ 20 j = 0 ∨ σ 20 j = 1) → ∃ τ, Rn_R_X4_readFrom 2 σ (nI k) τ ∧ (∀ c, c ≠ 19 → c ≠ 20 → τ c = σ c) ∧ (∀ j, j < pd_b d → τ 19 j = iI (pd_hs d j) ∧ τ 20 j = if pd_hi d j = true then 1 else 0) ∧ (∀ j, j < 9 → τ 20 j = 0 ∨ τ 20 j = 1) := by
  have h9 := h.1.2
  intro m
  induction m with
  | zero =>
    intro k σ hk hc hH hb
    have hk' : k = pd_b d := by omega
    subst hk'
    refine ⟨σ, ?_, fun _ _ _ => rfl, hH, hb⟩
    apply ru_R_X4_readFrom_2
    unfold tr_R_X4_readFrom_2
    rw [hc.1.2, if_pos (nI_le (by omega) (by omega))]
  | succ m ih =>
    intro k σ hk hc hH hb
    have hkb : k < pd_b d := by omega
    have hc1 : cD d (sf_up σ 19 k (iI (pd_hs d k))) := cD_fr hc (fun c h1 h2 => sf_up_ne σ _ _ (by omega))
    obtain ⟨τ, t1, t2, t3, t4⟩ := ih (k + 1) (sf_up (sf_up σ 19 k (iI (pd_hs d k))) 20 k (if pd_hi d k = true then 1 else 0)) (by omega) (cD_fr hc1 (fun c h1 h2 => sf_up_ne _ _ _ (by omega))) (fun j hj => by
      show (if j = k then iI (pd_hs d k) else σ 19 j) = _ ∧ (if j = k then (if pd_hi d k = true then (1 : Int32) else 0) else σ 20 j) = _
      by_cases hjk : j = k
      · subst hjk; rw [if_pos rfl, if_pos rfl]; exact ⟨rfl, rfl⟩
      · rw [if_neg hjk, if_neg hjk]; exact hH j (by omega)) (fun j hj => by
      show (if j = k then (if pd_hi d k = true then (1 : Int32) else 0) else σ 20 j) = 0 ∨ (if j = k then (if pd_hi d k = true then (1 : Int32) else 0) else σ 20 j) = 1
      by_cases hjk : j = k
      · rw [if_pos hjk]
        split
        · exact Or.inr rfl
        · exact Or.inl rfl
      · rw [if_neg hjk]; exact hb j hj)
    refine ⟨τ, ?_, fun c a1 a2 => (t2 c a1 a2).trans (by rw [sf_up_ne _ _ _ a2, sf_up_ne _ _ _ a1]), t3, t4⟩
    apply ru_R_X4_readFrom_2
    unfold tr_R_X4_readFrom_2
    rw [hc.1.2, if_neg (nI_ge (by omega) (by omega)), sp_ix (by omega)]
    refine ⟨_, σ, sp_senseOfBond h hc hkb, sp_in (by omega) (by decide), ?_⟩
    intro s1 e1
    subst e1
    refine ⟨_, _, sp_isHinge h hc1 hkb, sp_in (by omega) (by decide), ?_⟩
    rw [sn_nar]
    simp only [forall_eq, sp_inc]
    exact t1
theorem sp_read_1 (h : pd_W d) : ∀ m k (σ : sf_St), k + m = pd_n d → cD d σ → (∀ j, j < k → σ 18 j = iI (pd_cs d j)) → (∀ j, j < 9 → σ 20 j = 0 ∨ σ 20 j = 1) → ∃ τ, Rn_R_X4_readFrom 1 σ (nI k) τ ∧ (∀ c, c ≠ 18 → c ≠ 19 → c ≠ 20 → c ≠ 21 → τ c = σ c) ∧ (∀ j, j < pd_n d → τ 18 j = iI (pd_cs d j)) ∧ (∀ j, j < pd_b d → τ 19 j = iI (pd_hs d j) ∧ τ 20 j = if pd_hi d j = true then 1 else 0) ∧ (∀ j, j < 9 → τ 20 j = 0 ∨ τ 20 j = 1) := by
  have h7 := h.1.1
  intro m
  induction m with
  | zero =>
    intro k σ hk hc hH hb
    have hk' : k = pd_n d := by omega
    subst hk'
    obtain ⟨τ, t1, t2, t3, t4⟩ := sp_read_2 h (pd_b d) 0 σ (by omega) hc (fun j hj => by omega) hb
    refine ⟨τ, ?_, fun c _ a2 a3 _ => t2 c a2 a3, fun j hj => by rw [t2 18 (by decide) (by decide)]; exact hH j hj, t3, t4⟩
    apply ru_R_X4_readFrom_1
    unfold tr_R_X4_readFrom_1
    rw [hc.1.1, if_pos (nI_le (by omega) (by omega))]
    exact t1
  | succ m ih =>
    intro k σ hk hc hH hb
    have hkn : k < pd_n d := by omega
    obtain ⟨σ1, s1, s2⟩ := sp_senseOfAtom h hc hkn
    have hc1 : cD d σ1 := cD_fr hc (fun c h1 h2 => s2 c (by omega))
    obtain ⟨τ, t1, t2, t3, t4, t5⟩ := ih (k + 1) (sf_up σ1 18 k (iI (pd_cs d k))) (by omega) (cD_fr hc1 (fun c h1 h2 => sf_up_ne _ _ _ (by omega))) (fun j hj => by
      rw [sf_up_at, if_pos rfl]
      by_cases hjk : j = k
      · subst hjk; rw [if_pos rfl]
      · rw [if_neg hjk, s2 18 (by decide)]; exact hH j (by omega)) (fun j hj => by
      rw [sf_up_ne _ _ _ (by decide), s2 20 (by decide)]; exact hb j hj)
    refine ⟨τ, ?_, fun c a1 a2 a3 a4 => (t2 c a1 a2 a3 a4).trans (by rw [sf_up_ne _ _ _ a1]; exact s2 c a4), t3, t4, t5⟩
    apply ru_R_X4_readFrom_1
    unfold tr_R_X4_readFrom_1
    rw [hc.1.1, if_neg (nI_ge (by omega) (by omega)), sp_ix (by omega)]
    refine ⟨_, σ1, s1, sp_in (by omega) (by decide), ?_⟩
    simp only [forall_eq, sp_inc]
    exact t1
theorem sp_readFrom (h : pd_W d) {σ : sf_St} (hc : cD d σ) (hb : ∀ j, j < 9 → σ 20 j = 0 ∨ σ 20 j = 1) : ∃ τ, R_X4_readFrom σ τ ∧ (∀ c, c ≠ 18 → c ≠ 19 → c ≠ 20 → c ≠ 21 → τ c = σ c) ∧ (∀ j, j < pd_n d → τ 18 j = iI (pd_cs d j)) ∧ (∀ j, j < pd_b d → τ 19 j = iI (pd_hs d j) ∧ τ 20 j = if pd_hi d j = true then 1 else 0) ∧ (∀ j, j < 9 → τ 20 j = 0 ∨ τ 20 j = 1) := by
  obtain ⟨τ, t1, t2⟩ := sp_read_1 h (pd_n d) 0 σ (by omega) hc (fun j hj => by omega) hb
  refine ⟨τ, ?_, t2⟩
  unfold R_X4_readFrom
  apply ru_R_X4_readFrom_0
  unfold tr_R_X4_readFrom_0
  exact t1
end CS7
