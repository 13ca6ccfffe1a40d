/-! the class: settle -/
section SET
variable {d : pd_D}
theorem sn_fits {x : Int32} (h : x = 0 ∨ x = 1) : fits .boolean (.int x) = true := by
  rcases h with rfl | rfl <;> rfl
/-- what settle leaves as it is -/
def st_f (σ τ : sf_St) : Prop := ∀ c, (c < 18 ∧ c ≠ 0) ∨ (38 ≤ c ∧ c < 41) ∨ 43 ≤ c → τ c = σ c
theorem sp_settle_0 (h : pd_W d) {σ : sf_St} (hc : cD d σ) (hB : iv_B σ) (h0 : σ 0 10 = 0) : ∃ τ, R_X6_settle σ τ ∧ st_f σ τ ∧ τ 0 10 = 1 ∧ cS d τ ∧ iv_B τ := by
  have h7 := h.1.1
  have h9 := h.1.2
  obtain ⟨τ3, a1, a2, a3, a4, a5⟩ := sp_readFrom h hc (fun j hj => (hB j hj).1)
  have hc3 : cD d τ3 := cD_fr hc (fun c h1 h2 => a2 c (by omega) (by omega) (by omega) (by omega))
  obtain ⟨τ5, b1, b2, b3, b4⟩ := sp_begin h hc3
  have hc5 : cD d τ5 := cD_fr hc3 (fun c h1 h2 => b2 c (by omega) (by omega))
  have zz : ∀ c, 18 ≤ c → c ≤ 25 → cz c := fun c h1 h2 => ⟨by omega, by omega, by omega, by omega, by omega, by omega⟩
  have hS5 : cSn d 18 19 20 (pd_cs d) (pd_hs d) τ5 := by
    refine ⟨fun a ha => ⟨?_, p3_cs d a⟩, fun k hk => ⟨?_, p3_hs d k, ?_⟩⟩
    · rw [b2 18 (by decide) (by decide)]; exact a3 a ha
    · rw [b2 19 (by decide) (by decide)]; exact (a4 k hk).1
    · rw [b2 20 (by decide) (by decide)]; exact (a4 k hk).2
  have hW5 : cW d 18 19 20 (pd_cs d) (pd_hs d) τ5 := ⟨hc5, b4, hS5⟩
  obtain ⟨τ7, c1, c2, c3⟩ := sp_leastSenses (sr := 21) h (zz 18 (by decide) (by decide)) (zz 19 (by decide) (by decide)) (zz 20 (by decide) (by decide)) (p3_cs d) (p3_hs d) hW5 (R := List.replicate (pd_n d) pm_OP) [] (by simp) (fun i => by
      rw [List.getD_eq_getElem?_getD, List.getElem?_replicate]
      split
      · exact Nat.le_refl _
      · exact Nat.zero_le _) (fun i hi => by
      rw [b3 i (by omega), List.getD_eq_getElem?_getD, List.getElem?_replicate, if_pos hi]; rfl)
  rw [pd_first h (p3_cs d) (p3_hs d) (fun a ha hal => pd_cs_al h ha hal)] at c1 c3
  have hW7 := cW_fr (zz 18 (by decide) (by decide)) (zz 19 (by decide) (by decide)) (zz 20 (by decide) (by decide)) hW5 c2
  have hmf := pd_mf_lt h (p3_cs d) (p3_hs d)
  have hmN := pd_mf_pN h (p3_cs d) (p3_hs d)
  have hbest := c3.2.2 (show (pd_mf d (pd_cs d) (pd_hs d)).1 < pm_OP by have hop : pm_OP = 2147483647 := rfl; omega)
  -- the form is taken
  obtain ⟨τ10, hτ10⟩ : ∃ t, t = sf_up (sf_up (sf_upc τ7 37 (va_cpy (τ7 28) (τ7 37) (sf_ix 0) (sf_ix 0) (sf_ix 7))) 36 0 (τ7 1 3)) 36 2 (nI (pd_mf d (pd_cs d) (pd_hs d)).1) := ⟨_, rfl⟩
  have d1 : R_X1_take 36 37 28 τ7 (τ7 1 3) (nI (pd_mf d (pd_cs d) (pd_hs d)).1) τ10 := by
    unfold R_X1_take
    simp only [forall_eq]
    exact hτ10
  have d2 : ∀ c, c ≠ 36 → c ≠ 37 → τ10 c = τ7 c := fun c q1 q2 => by rw [hτ10, sf_up_ne _ _ _ q1, sf_up_ne _ _ _ q1, sf_upc_ne _ _ q2]
  have d3 : ∀ j, j < 7 → τ10 37 j = τ7 28 j := fun j hj => by
    rw [hτ10, sf_up_ne _ _ _ (by decide), sf_up_ne _ _ _ (by decide), sf_upc_eq]
    exact (pk_cpy_in (Nat.zero_le _) (by show j < 0 + 7; omega)).trans (by show τ7 28 (0 + (j - 0)) = _; rw [Nat.zero_add, Nat.sub_zero])
  have d4 : τ10 36 0 = nI (pd_n d) ∧ τ10 36 2 = nI (pd_mf d (pd_cs d) (pd_hs d)).1 := by
    constructor
    · rw [hτ10, sf_up_at, if_pos rfl, if_neg (by decide), sf_up_at, if_pos rfl, if_pos rfl]; exact hW7.1.1.1
    · rw [hτ10, sf_up_at, if_pos rfl, if_pos rfl]
  obtain ⟨τ12, hτ12⟩ : ∃ t, t = sf_upc (sf_upc τ10 41 (va_cpy (τ10 30) (τ10 41) (sf_ix 0) (sf_ix 0) (sf_ix 7))) 42 (va_cpy (τ10 31) (τ10 42) (sf_ix 0) (sf_ix 0) (sf_ix 7)) := ⟨_, rfl⟩
  have e1 : R_X2_copyFrom 41 42 30 31 τ10 τ12 := by
    unfold R_X2_copyFrom
    simp only [forall_eq]
    exact hτ12
  have e2 : ∀ c, c ≠ 41 → c ≠ 42 → τ12 c = τ10 c := fun c q1 q2 => by rw [hτ12, sf_upc_ne _ _ q2, sf_upc_ne _ _ q1]
  have e3 : ∀ j, j < 7 → τ12 41 j = τ7 30 j ∧ τ12 42 j = τ7 31 j := fun j hj => by
    have k1 : τ12 41 j = τ10 30 j := by
      rw [hτ12, sf_upc_ne _ _ (by decide), sf_upc_eq]
      exact (pk_cpy_in (Nat.zero_le _) (by show j < 0 + 7; omega)).trans (by show τ10 30 (0 + (j - 0)) = _; rw [Nat.zero_add, Nat.sub_zero])
    have k2 : τ12 42 j = τ10 31 j := by
      rw [hτ12, sf_upc_eq]
      exact (pk_cpy_in (Nat.zero_le _) (by show j < 0 + 7; omega)).trans (by show τ10 31 (0 + (j - 0)) = _; rw [Nat.zero_add, Nat.sub_zero])
    rw [k1, k2, d2 30 (by decide) (by decide), d2 31 (by decide) (by decide)]
    exact ⟨rfl, rfl⟩
  -- the senses are copied, and mirrored
  have s20 : τ12 20 = τ3 20 := by rw [e2 20 (by decide) (by decide), d2 20 (by decide) (by decide), cf_at c2 (zz 20 (by decide) (by decide)), b2 20 (by decide) (by decide)]
  have s19 : τ12 19 = τ3 19 := by rw [e2 19 (by decide) (by decide), d2 19 (by decide) (by decide), cf_at c2 (zz 19 (by decide) (by decide)), b2 19 (by decide) (by decide)]
  have s18 : τ12 18 = τ3 18 := by rw [e2 18 (by decide) (by decide), d2 18 (by decide) (by decide), cf_at c2 (zz 18 (by decide) (by decide)), b2 18 (by decide) (by decide)]
  obtain ⟨τ14, hτ14⟩ : ∃ t, t = sf_upc (sf_upc (sf_upc τ12 23 (va_cpy (τ12 18) (τ12 23) (sf_ix 0) (sf_ix 0) (sf_ix 7))) 24 (va_cpy (τ12 19) (τ12 24) (sf_ix 0) (sf_ix 0) (sf_ix 9))) 25 (va_cpy (τ12 20) (τ12 25) (sf_ix 0) (sf_ix 0) (sf_ix 9)) := ⟨_, rfl⟩
  have f1 : R_X4_copyFrom τ12 τ14 := by
    unfold R_X4_copyFrom
    simp only [forall_eq]
    refine ⟨fun i hi => ?_, hτ14⟩
    apply sn_fits
    have hi' : i < 9 := hi
    show τ12 20 (0 + i) = 0 ∨ τ12 20 (0 + i) = 1
    rw [Nat.zero_add, s20]
    exact a5 i hi'
  have f2 : ∀ c, c ≠ 23 → c ≠ 24 → c ≠ 25 → τ14 c = τ12 c := fun c q1 q2 q3 => by rw [hτ14, sf_upc_ne _ _ q3, sf_upc_ne _ _ q2, sf_upc_ne _ _ q1]
  have f3 : ∀ j, j < 7 → τ14 23 j = τ3 18 j := fun j hj => by
    rw [hτ14, sf_upc_ne _ _ (by decide), sf_upc_ne _ _ (by decide), sf_upc_eq, ← s18]
    exact (pk_cpy_in (Nat.zero_le _) (by show j < 0 + 7; omega)).trans (by show τ12 18 (0 + (j - 0)) = _; rw [Nat.zero_add, Nat.sub_zero])
  have f4 : ∀ j, j < 9 → τ14 24 j = τ3 19 j := fun j hj => by
    rw [hτ14, sf_upc_ne _ _ (by decide), sf_upc_eq, ← s19]
    exact (pk_cpy_in (Nat.zero_le _) (by show j < 0 + 9; omega)).trans (by show τ12 19 (0 + (j - 0)) = _; rw [Nat.zero_add, Nat.sub_zero])
  have f5 : ∀ j, j < 9 → τ14 25 j = τ3 20 j := fun j hj => by
    rw [hτ14, sf_upc_eq, ← s20]
    exact (pk_cpy_in (Nat.zero_le _) (by show j < 0 + 9; omega)).trans (by show τ12 20 (0 + (j - 0)) = _; rw [Nat.zero_add, Nat.sub_zero])
  obtain ⟨τ16, g1, g2, g3⟩ := sp_mirror τ14
  have all16 : ∀ c, c ≠ 23 → c ≠ 24 → c ≠ 25 → c ≠ 41 → c ≠ 42 → c ≠ 36 → c ≠ 37 → τ16 c = τ7 c := fun c q1 q2 q3 q4 q5 q6 q7 => by rw [g2 c q1, f2 c q1 q2 q3, e2 c q4 q5, d2 c q6 q7]
  have hc16 : cD d τ16 := cD_fr hW7.1 (fun c h1 h2 => all16 c (by omega) (by omega) (by omega) (by omega) (by omega) (by omega) (by omega))
  have hW16 : cW d 23 24 25 (fun a => - pd_cs d a) (pd_hs d) τ16 := by
    refine ⟨hc16, ?_, fun a ha => ⟨?_, p3_neg (p3_cs d a)⟩, fun k hk => ⟨?_, p3_hs d k, ?_⟩⟩
    · unfold cHd
      rw [all16 35 (by decide) (by decide) (by decide) (by decide) (by decide) (by decide) (by decide)]
      exact hW7.2.1
    · rw [g3 a (by omega), f3 a (by omega), a3 a ha, iI_neg]
    · rw [g2 24 (by decide), f4 k (by omega)]; exact (a4 k hk).1
    · rw [g2 25 (by decide), f5 k (by omega)]; exact (a4 k hk).2
  obtain ⟨τ18, i1, i2, i3⟩ := sp_leastSenses (sr := 26) h (zz 23 (by decide) (by decide)) (zz 24 (by decide) (by decide)) (zz 25 (by decide) (by decide)) (fun a => p3_neg (p3_cs d a)) (p3_hs d) hW16 (R := (pd_K d).1) [] (pd_K1_len h) (pd_K1_le h) (fun i hi => by
      rw [all16 28 (by decide) (by decide) (by decide) (by decide) (by decide) (by decide) (by decide)]; exact c3.1 i hi)
  rw [pd_second h (fun a => p3_neg (p3_cs d a)) (p3_hs d) (fun a ha hal => by show - pd_cs d a = 0; rw [pd_cs_al h ha hal]; rfl)] at i1 i3
  refine ⟨sf_up (sf_up τ18 0 9 (nI (pd_mf d (fun a => - pd_cs d a) (pd_hs d)).1)) 0 10 1, ?_, ?_, by rw [sf_up_at, if_pos rfl, if_pos rfl], ?_, ?_⟩
  · unfold R_X6_settle
    rw [if_pos h0]
    refine ⟨τ3, a1, τ5, b1, _, τ7, c1, τ10, d1, τ12, e1, τ14, f1, τ16, g1, _, τ18, i1, ?_⟩
    simp only [forall_eq]
  · intro c hcc
    rw [sf_up_ne _ _ _ (by omega), sf_up_ne _ _ _ (by omega), i2.1 c (by omega) (by omega) (by omega) (by omega) (by omega) (by omega), all16 c (by omega) (by omega) (by omega) (by omega) (by omega) (by omega) (by omega), c2.1 c (by omega) (by omega) (by omega) (by omega) (by omega) (by omega), b2 c (by omega) (by omega), a2 c (by omega) (by omega) (by omega) (by omega)]
  · have fin : ∀ c, c ≠ 0 → sf_up (sf_up τ18 0 9 (nI (pd_mf d (fun a => - pd_cs d a) (pd_hs d)).1)) 0 10 1 c = τ18 c := fun c q => by rw [sf_up_ne _ _ _ q, sf_up_ne _ _ _ q]
    have l18 : ∀ c, cz c → τ18 c = τ16 c := fun c q => cf_at i2 q
    have zc : ∀ c, 35 ≤ c → cz c := fun c q => ⟨by omega, by omega, by omega, by omega, by omega, by omega⟩
    refine ⟨fun a ha => ?_, fun k hk => ?_, ⟨?_, ?_, ?_⟩, fun i hi => ⟨?_, ?_⟩, fun a ha => ?_, fun i hi => ⟨?_, ?_⟩⟩
    · rw [fin 18 (by decide), l18 18 (zz 18 (by decide) (by decide)), g2 18 (by decide), f2 18 (by decide) (by decide) (by decide), s18]; exact a3 a ha
    · rw [fin 19 (by decide), l18 19 (zz 19 (by decide) (by decide)), g2 19 (by decide), f2 19 (by decide) (by decide) (by decide), s19, fin 20 (by decide), l18 20 (zz 20 (by decide) (by decide)), g2 20 (by decide), f2 20 (by decide) (by decide) (by decide), s20]; exact a4 k hk
    · rw [fin 36 (by decide), l18 36 (zc 36 (by decide)), g2 36 (by decide), f2 36 (by decide) (by decide) (by decide), e2 36 (by decide) (by decide)]; exact d4.1
    · rw [fin 36 (by decide), l18 36 (zc 36 (by decide)), g2 36 (by decide), f2 36 (by decide) (by decide) (by decide), e2 36 (by decide) (by decide)]; exact d4.2
    · rw [sf_up_at, if_pos rfl, if_neg (by decide), sf_up_at, if_pos rfl, if_pos rfl]
    · rw [fin 37 (by decide), l18 37 (zc 37 (by decide)), g2 37 (by decide), f2 37 (by decide) (by decide) (by decide), e2 37 (by decide) (by decide), d3 i (by omega)]; exact c3.1 i hi
    · rw [fin 28 (by decide)]; exact i3.1 i hi
    · rw [fin 35 (by decide), l18 35 (zc 35 (by decide))]; exact hW16.2.1 a ha
    · rw [fin 41 (by decide), l18 41 (zc 41 (by decide)), g2 41 (by decide), f2 41 (by decide) (by decide) (by decide), (e3 i (by omega)).1]; exact (hbest i hi).1
    · have gi := pN_getD hmN hi
      rw [fin 42 (by decide), l18 42 (zc 42 (by decide)), g2 42 (by decide), f2 42 (by decide) (by decide) (by decide), (e3 _ (by omega)).2]; exact (hbest i hi).2
  · intro k hk
    have fin : ∀ c, c ≠ 0 → sf_up (sf_up τ18 0 9 (nI (pd_mf d (fun a => - pd_cs d a) (pd_hs d)).1)) 0 10 1 c = τ18 c := fun c q => by rw [sf_up_ne _ _ _ q, sf_up_ne _ _ _ q]
    rw [fin 20 (by decide), cf_at i2 (zz 20 (by decide) (by decide)), g2 20 (by decide), f2 20 (by decide) (by decide) (by decide), s20, fin 25 (by decide), cf_at i2 (zz 25 (by decide) (by decide)), g2 25 (by decide), f5 k hk]
    exact ⟨a5 k hk, a5 k hk⟩
end SET
