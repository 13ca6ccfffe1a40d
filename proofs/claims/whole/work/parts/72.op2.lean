/-! flip, clear, mark -/
theorem sf_up_ne (σ : sf_St) {k k' : Nat} (i : Nat) (v : Int32) (h : k' ≠ k) : sf_up σ k i v k' = σ k' := by
  unfold sf_up sf_upc
  rw [if_neg h]
def pd_fl (m : Nat) : Nat := if m = 0 then 0 else 3 - m
def pd_mk (d : pd_D) (m : Nat) : Nat := pd_sum (fun k => if pd_m d k = 0 then 0 else 1) m
theorem pd_mk_le (d : pd_D) : ∀ m, pd_mk d m ≤ m := by
  intro m
  induction m with
  | zero => exact Nat.le_refl _
  | succ m ih =>
    show pd_mk d m + _ ≤ _
    dsimp only
    split <;> omega
theorem sp_swapMarks_1 {d : pd_D} (hw : pd_W d) : ∀ m k (σ : sf_St), k + m = pd_b d → σ 1 8 = nI (pd_b d) → (∀ j, j < pd_b d → k ≤ j → σ 8 j = nI (pd_m d j)) → ∃ τ, Rn_R_X0_swapMarks 1 σ (nI (pd_mk d k)) (nI k) (nI (pd_mk d (pd_b d))) τ ∧ (∀ c, c ≠ 8 → τ c = σ c) ∧ (∀ j, j < k → τ 8 j = σ 8 j) ∧ (∀ j, j < pd_b d → k ≤ j → τ 8 j = nI (pd_fl (pd_m d j))) := by
  have h9 := hw.1.2
  intro m
  induction m with
  | zero =>
    intro k σ hk hb hmk
    have hk' : k = pd_b d := by omega
    subst hk'
    refine ⟨σ, ?_, fun _ _ => rfl, fun _ _ => rfl, fun j h1 h2 => by omega⟩
    apply ru_R_X0_swapMarks_1
    unfold tr_R_X0_swapMarks_1
    rw [hb, if_pos (nI_le (by omega) (by omega))]
    exact ⟨rfl, rfl⟩
  | succ m ih =>
    intro k σ hk hb hmk
    have hkb : k < pd_b d := by omega
    have hm2 := (hw.2.2.1 k hkb).2.2.2.2.2
    have hle := pd_mk_le d k
    have hin : vp_in (nI k) 9 := sp_in (by omega) (by decide)
    have hs : pd_mk d (k + 1) = pd_mk d k + (if pd_m d k = 0 then 0 else 1) := rfl
    by_cases h0 : pd_m d k = 0
    · obtain ⟨τ, t1, t2, t3, t4⟩ := ih (k + 1) σ (by omega) hb (fun j h1 h2 => hmk j h1 (by omega))
      refine ⟨τ, ?_, t2, fun j hj => t3 j (by omega), fun j h1 h2 => ?_⟩
      · apply ru_R_X0_swapMarks_1
        unfold tr_R_X0_swapMarks_1
        rw [hb, if_neg (nI_ge (by omega) (by omega)), sp_ix (by omega), hmk k hkb (Nat.le_refl _), h0]
        refine ⟨hin, ?_⟩
        rw [if_pos (show nI 0 = (0 : Int32) from rfl)]
        intro y hy
        rw [sp_inc] at hy
        subst hy
        rw [hs, if_pos h0] at t1
        exact t1
      · by_cases hjk : j = k
        · subst hjk
          rw [t3 j (by omega), hmk j h1 h2, h0]
          rfl
        · exact t4 j h1 (by omega)
    · obtain ⟨τ, t1, t2, t3, t4⟩ := ih (k + 1) (sf_up σ 8 k (nI (3 - pd_m d k))) (by omega) hb (fun j h1 h2 => by rw [sf_up_at, if_pos rfl, if_neg (by omega)]; exact hmk j h1 (by omega))
      refine ⟨τ, ?_, fun c hc => (t2 c hc).trans (sf_up_ne σ _ _ hc), fun j hj => by rw [t3 j (by omega), sf_up_at, if_pos rfl, if_neg (by omega)], fun j h1 h2 => ?_⟩
      · apply ru_R_X0_swapMarks_1
        unfold tr_R_X0_swapMarks_1
        rw [hb, if_neg (nI_ge (by omega) (by omega)), sp_ix (by omega), hmk k hkb (Nat.le_refl _)]
        simp (disch := omega) only [sq_eq0, sq_eq1, sp_inc, forall_eq]
        rw [hs, if_neg h0] at t1
        refine ⟨hin, ?_⟩
        rw [if_neg h0]
        refine ⟨hin, ?_⟩
        by_cases h1 : pd_m d k = 1
        · rw [if_pos h1]
          rw [h1] at t1
          exact ⟨hin, t1⟩
        · rw [if_neg h1]
          have h2 : pd_m d k = 2 := by omega
          rw [h2] at t1
          exact ⟨hin, t1⟩
      · by_cases hjk : j = k
        · subst hjk
          rw [t3 j (by omega), sf_up_at, if_pos rfl, if_pos rfl]
          unfold pd_fl
          rw [if_neg h0]
        · exact t4 j h1 (by omega)
theorem sp_mFlip_1 {d : pd_D} (hw : pd_W d) : ∀ m k (σ : sf_St), k + m = pd_b d → σ 0 4 = nI (pd_b d) → (∀ j, j < pd_b d → k ≤ j → σ 7 j = nI (pd_m d j)) → ∃ τ, Rn_R_X7_flip 1 σ (nI (pd_mk d k)) (nI k) (nI (pd_mk d (pd_b d))) τ ∧ (∀ c, c ≠ 7 → τ c = σ c) ∧ (∀ j, j < k → τ 7 j = σ 7 j) ∧ (∀ j, j < pd_b d → k ≤ j → τ 7 j = nI (pd_fl (pd_m d j))) := by
  have h9 := hw.1.2
  intro m
  induction m with
  | zero =>
    intro k σ hk hb hmk
    have hk' : k = pd_b d := by omega
    subst hk'
    refine ⟨σ, ?_, fun _ _ => rfl, fun _ _ => rfl, fun j h1 h2 => by omega⟩
    apply ru_R_X7_flip_1
    unfold tr_R_X7_flip_1
    rw [hb, if_pos (nI_le (by omega) (by omega))]
    exact ⟨rfl, rfl⟩
  | succ m ih =>
    intro k σ hk hb hmk
    have hkb : k < pd_b d := by omega
    have hm2 := (hw.2.2.1 k hkb).2.2.2.2.2
    have hle := pd_mk_le d k
    have hin : vp_in (nI k) 9 := sp_in (by omega) (by decide)
    have hs : pd_mk d (k + 1) = pd_mk d k + (if pd_m d k = 0 then 0 else 1) := rfl
    obtain ⟨τ, t1, t2, t3, t4⟩ := ih (k + 1) (sf_up σ 7 k (nI (pd_fl (pd_m d k)))) (by omega) hb (fun j h1 h2 => by rw [sf_up_at, if_pos rfl, if_neg (by omega)]; exact hmk j h1 (by omega))
    refine ⟨τ, ?_, fun c hc => (t2 c hc).trans (sf_up_ne σ _ _ hc), fun j hj => by rw [t3 j (by omega), sf_up_at, if_pos rfl, if_neg (by omega)], fun j h1 h2 => ?_⟩
    · apply ru_R_X7_flip_1
      unfold tr_R_X7_flip_1
      rw [hb, if_neg (nI_ge (by omega) (by omega)), sp_ix (by omega), hmk k hkb (Nat.le_refl _)]
      have e0 : nI (pd_mk d k) + (0 : Int32) = nI (pd_mk d k) := nI_add _ 0
      simp (disch := omega) only [sq_le0, sp_inc, forall_eq, e0]
      refine ⟨hin, ?_⟩
      by_cases h0 : pd_m d k = 0
      · rw [hs, if_pos h0] at t1
        rw [if_pos (by omega), if_pos (by omega)]
        unfold pd_fl at t1
        rw [if_pos h0] at t1
        exact ⟨hin, hin, t1⟩
      · rw [hs, if_neg h0] at t1
        rw [if_neg (by omega), if_neg (by omega)]
        unfold pd_fl at t1
        rw [if_neg h0] at t1
        have e3 : (3 : Int32) - nI (pd_m d k) = nI (3 - pd_m d k) := pk_sub (a := 3) (by omega)
        rw [e3]
        exact ⟨hin, hin, hin, t1⟩
    · by_cases hjk : j = k
      · subst hjk
        rw [t3 j (by omega), sf_up_at, if_pos rfl, if_pos rfl]
      · exact t4 j h1 (by omega)
def pd_flip (d : pd_D) : pd_D := (d.1, d.2.1, d.2.2.1, d.2.2.2.1, d.2.2.2.2.1, fun k => pd_fl (d.2.2.2.2.2 k))
theorem op_flip (σ σ' : sf_St) (h : Inv σ σ') : ∃ (r : Int32) (τ τ' : sf_St), R_X6_flip σ r τ ∧ R_X7_flip σ' r τ' ∧ Inv τ τ' := by
  obtain ⟨d, hw, hc, hm, hC, hM, hK, hT, hB⟩ := h
  obtain ⟨τ, t1, t2, t3, t4⟩ := sp_swapMarks_1 hw (pd_b d) 0 (sf_up σ 0 10 0) (by omega) hc.1.2 (fun j h1 _ => (hc.2.2.1 j h1).2.2.2)
  obtain ⟨τ', s1, s2, s3, s4⟩ := sp_mFlip_1 hw (pd_b d) 0 σ' (by omega) hm.1.2 (fun j h1 _ => (hm.2.2 j h1).2.2.2)
  refine ⟨nI (pd_mk d (pd_b d)), τ, τ', ?_, ?_, ?_⟩
  · unfold R_X6_flip
    intro τ1 h1
    subst h1
    refine ⟨_, τ, ?_, rfl, rfl⟩
    unfold R_X0_swapMarks
    apply ru_R_X0_swapMarks_0
    unfold tr_R_X0_swapMarks_0
    exact t1
  · unfold R_X7_flip
    apply ru_R_X7_flip_0
    unfold tr_R_X7_flip_0
    exact s1
  · have e : ∀ c, c ≠ 8 → c ≠ 0 → τ c = σ c := fun c h1 h2 => (t2 c h1).trans (sf_up_ne σ _ _ h2)
    have e0 : ∀ j, j ≠ 10 → τ 0 j = σ 0 j := fun j hj => by rw [t2 0 (by decide), sf_up_at, if_pos rfl, if_neg hj]
    have e' : ∀ c, c ≠ 7 → τ' c = σ' c := s2
    refine ⟨pd_flip d, ?_, ?_, ?_, Or.inl ?_, ?_, ?_, ?_, ?_⟩
    · refine ⟨hw.1, hw.2.1, fun k hk => ?_, hw.2.2.2.1, hw.2.2.2.2⟩
      obtain ⟨w1, w2, w3, w4, w5, w6⟩ := hw.2.2.1 k hk
      refine ⟨w1, w2, w3, w4, w5, ?_⟩
      show pd_fl (pd_m d k) ≤ 2
      unfold pd_fl
      split <;> omega
    · refine ⟨by rw [e 1 (by decide) (by decide)]; exact hc.1, fun i hi => ?_, fun k hk => ?_, fun a c ha hcc => by rw [e (10 + a) (by omega) (by omega)]; exact hc.2.2.2 a c ha hcc⟩
      · rw [e 2 (by decide) (by decide), e 3 (by decide) (by decide), e 4 (by decide) (by decide)]
        exact hc.2.1 i hi
      · rw [e 5 (by decide) (by decide), e 6 (by decide) (by decide), e 7 (by decide) (by decide)]
        obtain ⟨q1, q2, q3, q4⟩ := hc.2.2.1 k hk
        exact ⟨q1, q2, q3, t4 k hk (Nat.zero_le _)⟩
    · refine ⟨by rw [e' 0 (by decide)]; exact hm.1, fun i hi => ?_, fun k hk => ?_⟩
      · rw [e' 1 (by decide), e' 2 (by decide), e' 3 (by decide)]
        exact hm.2.1 i hi
      · rw [e' 4 (by decide), e' 5 (by decide), e' 6 (by decide)]
        obtain ⟨q1, q2, q3, q4⟩ := hm.2.2 k hk
        exact ⟨q1, q2, q3, s4 k hk (Nat.zero_le _)⟩
    · rw [t2 0 (by decide)]; rfl
    · unfold iv_M mS
      rw [e' 0 (by decide), e' 10 (by decide), e' 11 (by decide)]
      exact hM
    · unfold iv_K
      rw [e 38 (by decide) (by decide), e 39 (by decide) (by decide), e' 0 (by decide), e' 12 (by decide)]
      exact hK
    · unfold iv_T
      rw [e 43 (by decide) (by decide), e 44 (by decide) (by decide), e' 0 (by decide), e' 13 (by decide)]
      exact hT
    · unfold iv_B
      rw [e 20 (by decide) (by decide), e 25 (by decide) (by decide)]
      exact hB
/-- fill -/
theorem sp_fill_1 (kf : Nat) (u : Int32) : ∀ m k (σ : sf_St), k + m = 7 → ∃ τ, Rn_R_fill kf 1 σ u (nI k) 7 τ ∧ (∀ c, c ≠ kf → τ c = σ c) ∧ (∀ j, j < k → τ kf j = σ kf j) ∧ (∀ j, j < 7 → k ≤ j → τ kf j = u) := by
  intro m
  induction m with
  | zero =>
    intro k σ hk
    have hk' : k = 7 := by omega
    subst hk'
    refine ⟨σ, ?_, fun _ _ => rfl, fun _ _ => rfl, fun j h1 h2 => by omega⟩
    apply ru_R_fill_1
    unfold tr_R_fill_1
    rw [if_pos (by decide)]
  | succ m ih =>
    intro k σ hk
    obtain ⟨τ, t1, t2, t3, t4⟩ := ih (k + 1) (sf_up σ kf k u) (by omega)
    refine ⟨τ, ?_, fun c hc => (t2 c hc).trans (sf_up_ne σ _ _ hc), fun j hj => by rw [t3 j (by omega), sf_up_at, if_pos rfl, if_neg (by omega)], fun j h1 h2 => ?_⟩
    · apply ru_R_fill_1
      unfold tr_R_fill_1
      simp (disch := omega) only [sq_7le, sp_inc, forall_eq, sp_ix]
      rw [if_neg (by omega)]
      exact ⟨sp_in (by omega) (by decide), t1⟩
    · by_cases hjk : j = k
      · subst hjk
        rw [t3 j (by omega), sf_up_at, if_pos rfl, if_pos rfl]
      · exact t4 j h1 (by omega)
theorem sp_fill (kf : Nat) (u : Int32) (σ : sf_St) : ∃ τ, R_fill kf σ u τ ∧ (∀ c, c ≠ kf → τ c = σ c) ∧ (∀ j, j < 7 → τ kf j = u) := by
  obtain ⟨τ, t1, t2, t3, t4⟩ := sp_fill_1 kf u 7 0 σ (by omega)
  refine ⟨τ, ?_, t2, fun j hj => t4 j hj (Nat.zero_le _)⟩
  unfold R_fill
  apply ru_R_fill_0
  unfold tr_R_fill_0
  exact t1
theorem sp_removeAll_1 {n : Nat} (hn : n ≤ 7) : ∀ m k (σ : sf_St), k + m = n → σ 1 3 = nI n → ∃ τ, Rn_R_X0_removeAll 1 σ (nI k) τ ∧ (∀ c, c ≠ 1 → (∀ a, a < 7 → c ≠ 10 + a) → τ c = σ c) ∧ τ 1 3 = 0 ∧ τ 1 8 = 0 ∧ (∀ a c, a < 7 → c < 7 → τ (10 + a) c = if k ≤ a ∧ a < n then 0 else σ (10 + a) c) := by
  intro m
  induction m with
  | zero =>
    intro k σ hk h3
    have hk' : k = n := by omega
    subst hk'
    refine ⟨sf_up (sf_up σ 1 3 0) 1 8 0, ?_, fun c h1 _ => (sf_up_ne _ _ _ h1).trans (sf_up_ne _ _ _ h1), rfl, rfl, fun a c ha hcc => ?_⟩
    · apply ru_R_X0_removeAll_1
      unfold tr_R_X0_removeAll_1
      rw [h3, if_pos (nI_le (by omega) (by omega))]
      simp only [forall_eq]
    · rw [if_neg (by omega), sf_up_at, if_neg (by omega), sf_up_at, if_neg (by omega)]
  | succ m ih =>
    intro k σ hk h3
    obtain ⟨σ1, f1, f2, f3⟩ := sp_fill (10 + k) 0 σ
    obtain ⟨τ, t1, t2, t3, t4, t5⟩ := ih (k + 1) σ1 (by omega) (by rw [f2 1 (by omega)]; exact h3)
    refine ⟨τ, ?_, fun c h1 h2 => (t2 c h1 h2).trans (f2 c (h2 k (by omega))), t3, t4, fun a c ha hcc => ?_⟩
    · apply ru_R_X0_removeAll_1
      unfold tr_R_X0_removeAll_1
      rw [h3, if_neg (nI_ge (by omega) (by omega)), sp_ix (by omega)]
      refine ⟨sp_in (by omega) (by decide), σ1, f1, ?_⟩
      simp only [sp_inc, forall_eq]
      exact t1
    · rw [t5 a c ha hcc]
      by_cases hak : a = k
      · subst hak
        rw [if_neg (by omega), if_pos (by omega), f3 c hcc]
      · rw [f2 (10 + a) (by omega)]
        by_cases h1 : k + 1 ≤ a ∧ a < n
        · rw [if_pos h1, if_pos (by omega)]
        · rw [if_neg h1, if_neg (by omega)]
theorem pd_lk_out {d : pd_D} (hw : pd_W d) {a c : Nat} (h : pd_n d ≤ a) : pd_lk d a c = 0 := by
  unfold pd_lk
  cases hb : pd_bo d a c with
  | none => rfl
  | some k =>
    obtain ⟨h1, h2⟩ := pd_bo_some hb
    obtain ⟨w1, w2, -⟩ := hw.2.2.1 k h1
    simp only [pd_j, Bool.or_eq_true, Bool.and_eq_true, beq_iff_eq] at h2
    omega
theorem op_clear (σ σ' : sf_St) (h : Inv σ σ') : ∃ (r : Int32) (τ τ' : sf_St), R_X6_clear σ r τ ∧ R_X7_clear σ' r τ' ∧ Inv τ τ' := by
  obtain ⟨d, hw, hc, hm, hC, hM, hK, hT, hB⟩ := h
  have h7 := hw.1.1
  obtain ⟨τ, t1, t2, t3, t4, t5⟩ := sp_removeAll_1 h7 (pd_n d) 0 (sf_up σ 0 10 0) (by omega) hc.1.1
  refine ⟨nI (pd_n d), τ, sf_up (sf_up (sf_up σ' 0 0 0) 0 4 0) 0 11 0, ?_, ?_, ?_⟩
  · unfold R_X6_clear
    intro τ1 h1 y hy
    subst h1
    refine ⟨τ, ?_, ?_, rfl⟩
    · unfold R_X0_removeAll
      apply ru_R_X0_removeAll_0
      unfold tr_R_X0_removeAll_0
      exact t1
    · rw [hy]; exact hc.1.1.symm
  · unfold R_X7_clear
    simp only [forall_eq]
    exact ⟨hm.1.1.symm, trivial⟩
  · have e : ∀ c, c ≠ 1 → c ≠ 0 → (c < 10 ∨ 17 ≤ c) → τ c = σ c := fun c h1 h2 h3 => (t2 c h1 (fun a ha => by omega)).trans (sf_up_ne σ _ _ h2)
    refine ⟨pd_0, ?_, ⟨⟨t3, t4⟩, fun i hi => absurd hi (Nat.not_lt_zero _), fun k hk => absurd hk (Nat.not_lt_zero _), fun a c ha hcc => ?_⟩, ⟨⟨rfl, rfl⟩, fun i hi => absurd hi (Nat.not_lt_zero _), fun k hk => absurd hk (Nat.not_lt_zero _)⟩, Or.inl ?_, Or.inl rfl, ?_, ?_, ?_⟩
    · exact ⟨⟨by decide, by decide⟩, fun i hi => absurd hi (Nat.not_lt_zero _), fun k hk => absurd hk (Nat.not_lt_zero _), fun i j a b hi => absurd hi (Nat.not_lt_zero _), fun a ha => absurd ha (Nat.not_lt_zero _)⟩
    · rw [t5 a c ha hcc]
      by_cases h1 : a < pd_n d
      · rw [if_pos (by omega)]; rfl
      · rw [if_neg (by omega), sf_up_at, if_neg (by omega), hc.2.2.2 a c ha hcc, pd_lk_out hw (by omega)]; rfl
    · rw [t2 0 (by decide) (fun a ha => by omega)]; rfl
    · unfold iv_K
      rw [e 38 (by decide) (by decide) (by decide), e 39 (by decide) (by decide) (by decide)]
      exact hK
    · unfold iv_T
      rw [e 43 (by decide) (by decide) (by decide), e 44 (by decide) (by decide) (by decide)]
      exact hT
    · unfold iv_B
      rw [e 20 (by decide) (by decide) (by decide), e 25 (by decide) (by decide) (by decide)]
      exact hB
