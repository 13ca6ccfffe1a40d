/-! the calls row, senses, chiral, keep, compare -/
section OPS
variable {d : pd_D}
theorem sp_settle (h : pd_W d) {σ : sf_St} (hc : cD d σ) (hC : iv_C d σ) (hB : iv_B σ) : ∃ τ, R_X6_settle σ τ ∧ st_f σ τ ∧ τ 0 10 = 1 ∧ cS d τ ∧ iv_B τ := by
  rcases hC with h0 | ⟨h1, hS⟩
  · exact sp_settle_0 h hc hB h0
  · refine ⟨σ, ?_, fun _ _ => rfl, h1, hS, hB⟩
    unfold R_X6_settle
    rw [if_neg (by rw [h1]; decide)]
theorem pd_code_congr {A B A' B' : Nat → Int} (hA : ∀ a, a < pd_n d → A a = A' a) (hB : ∀ k, k < pd_b d → B k = B' k) {π : List Nat} (hp : pN d π) : pd_code d A B π = pd_code d A' B' π := by
  unfold pd_code
  have e1 : ∀ (l : List Nat) (c : Nat), (∀ a ∈ l, a < pd_n d) → l.foldl (fun c a => pd_dg c (A a * pd_os d (pd_num π) a (pd_n d))) c = l.foldl (fun c a => pd_dg c (A' a * pd_os d (pd_num π) a (pd_n d))) c := by
    intro l
    induction l with
    | nil => intro c _; rfl
    | cons a l ih =>
      intro c hl
      rw [List.foldl_cons, List.foldl_cons, hA a (hl a List.mem_cons_self)]
      exact ih _ (fun b hb => hl b (List.mem_cons_of_mem _ hb))
  have e2 : ∀ (l : List Nat) (c : Nat), (∀ k ∈ l, k < pd_b d) → l.foldl (fun c k => pd_dg c (B k * pd_os d (pd_num π) (pd_f d k) (pd_s d k) * pd_os d (pd_num π) (pd_s d k) (pd_f d k))) c = l.foldl (fun c k => pd_dg c (B' k * pd_os d (pd_num π) (pd_f d k) (pd_s d k) * pd_os d (pd_num π) (pd_s d k) (pd_f d k))) c := by
    intro l
    induction l with
    | nil => intro c _; rfl
    | cons a l ih =>
      intro c hl
      rw [List.foldl_cons, List.foldl_cons, hB a (hl a List.mem_cons_self)]
      exact ih _ (fun b hb => hl b (List.mem_cons_of_mem _ hb))
  rw [e1 π 0 (fun a ha => hp.1.2 a ha)]
  apply e2
  intro k hk
  unfold pd_hl at hk
  rw [List.mem_flatMap] at hk
  obtain ⟨i, -, hk⟩ := hk
  rw [List.mem_filterMap] at hk
  obtain ⟨j, -, hk⟩ := hk
  rw [Option.filter_eq_some_iff] at hk
  exact (pd_bo_some hk.1).1
theorem pm_mf_congr {f g : List Nat → Nat} : ∀ (l : List (List Nat)) (S : Nat × List Nat), (∀ π ∈ l, f π = g π) → pm_mf f l S = pm_mf g l S := by
  intro l
  induction l with
  | nil => intro S _; rfl
  | cons p l ih =>
    intro S hl
    have e1 : pm_mf f (p :: l) S = pm_mf f l (if f p < S.1 then (f p, p) else S) := rfl
    have e2 : pm_mf g (p :: l) S = pm_mf g l (if g p < S.1 then (g p, p) else S) := rfl
    rw [e1, e2, hl p List.mem_cons_self]
    exact ih _ (fun b hb => hl b (List.mem_cons_of_mem _ hb))
theorem pd_mf_congr {A B A' B' : Nat → Int} (hA : ∀ a, a < pd_n d → A a = A' a) (hB : ∀ k, k < pd_b d → B k = B' k) : pd_mf d A B = pd_mf d A' B' := by
  unfold pd_mf
  exact pm_mf_congr _ _ (fun π hπ => pd_code_congr hA hB (pd_K_pN hπ))
theorem tA_0 (a : Nat) : tA d 0 a = pd_cs d a := by
  unfold tA
  rw [Nat.zero_div, if_neg (by decide)]
theorem tB_0 (k : Nat) : tB d 0 k = pd_hs d k := by
  unfold tB
  rw [Nat.zero_div, if_neg (by decide)]
theorem tA_127 {a : Nat} (ha : a < 7) : tA d 127 a = - pd_cs d a := by
  have : 127 / 2 ^ a % 2 = 1 := by
    have : ∀ a, a < 7 → 127 / 2 ^ a % 2 = 1 := by decide
    exact this a ha
  unfold tA
  rw [if_pos this]
theorem tB_127 (k : Nat) : tB d 127 k = pd_hs d k := by
  have : 127 < 2 ^ (7 + k) := Nat.lt_of_lt_of_le (by decide : 127 < 2 ^ 7) (Nat.pow_le_pow_right (by decide) (by omega))
  unfold tB
  rw [Nat.div_eq_of_lt this, if_neg (by decide)]
theorem sp_mL (h : pd_W d) {t : Nat} (ht : t < 2 ^ 16) {σ : sf_St} (hm : mD d σ) (hM : iv_M d σ) : ∃ τ, R_X7_leastSenses σ (nI t) (nI (pd_mf d (tA d t) (tB d t)).1) τ ∧ rs_h σ τ ∧ mD d τ ∧ τ 0 11 = 1 ∧ mS d τ :=
  sp_mLeast h ht hm hM (fun π hp => pd_code_lt h hp (p3_tA d t) (p3_tB d t))
theorem sp_mL0 (h : pd_W d) {σ : sf_St} (hm : mD d σ) (hM : iv_M d σ) : ∃ τ, R_X7_leastSenses σ 0 (nI (pd_mf d (pd_cs d) (pd_hs d)).1) τ ∧ rs_h σ τ ∧ mD d τ ∧ τ 0 11 = 1 ∧ mS d τ := by
  have := sp_mL (t := 0) h (by decide) hm hM
  rw [pd_mf_congr (A' := pd_cs d) (B' := pd_hs d) (fun a _ => tA_0 a) (fun k _ => tB_0 k)] at this
  exact this
theorem sp_mL127 (h : pd_W d) {σ : sf_St} (hm : mD d σ) (hM : iv_M d σ) : ∃ τ, R_X7_leastSenses σ 127 (nI (pd_mf d (fun a => - pd_cs d a) (pd_hs d)).1) τ ∧ rs_h σ τ ∧ mD d τ ∧ τ 0 11 = 1 ∧ mS d τ := by
  have h7 := h.1.1
  have := sp_mL (t := 127) h (by decide) hm hM
  rw [pd_mf_congr (A' := fun a => - pd_cs d a) (B' := pd_hs d) (fun a ha => tA_127 (by omega)) (fun k _ => tB_127 k)] at this
  exact this
theorem inv_of (h : pd_W d) {σ σ' τ τ' : sf_St} (hc : cD d τ) (hm : mD d τ') (hC : iv_C d τ) (hM : iv_M d τ') (hK : iv_K σ σ') (hT : iv_T σ σ') (hB : iv_B τ) (e38 : τ 38 = σ 38) (e39 : τ 39 = σ 39) (e43 : τ 43 = σ 43) (e44 : τ 44 = σ 44) (e12 : τ' 12 = σ' 12) (e13 : τ' 13 = σ' 13) (e0 : ∀ j, j ≠ 11 → j ≠ 13 → τ' 0 j = σ' 0 j) : Inv τ τ' := by
  refine ⟨d, h, hc, hm, hC, hM, ?_, ?_, hB⟩
  · unfold iv_K
    rw [e38, e39, e12, e0 15 (by decide) (by decide), e0 16 (by decide) (by decide), e0 18 (by decide) (by decide)]
    exact hK
  · unfold iv_T
    rw [e43, e44, e13, e0 19 (by decide) (by decide)]
    exact hT
theorem inv_ss (h : pd_W d) {σ σ' τ τ' : sf_St} (hc : cD d σ) (hK : iv_K σ σ') (hT : iv_T σ σ') (hf : st_f σ τ) (h10 : τ 0 10 = 1) (hS : cS d τ) (hB : iv_B τ) (hg : rs_h σ' τ') (hm : mD d τ') (h11 : τ' 0 11 = 1) (hM : mS d τ') : Inv τ τ' :=
  inv_of h (cD_fr hc (fun c h1 h2 => hf c (by omega))) hm (Or.inr ⟨h10, hS⟩) (Or.inr ⟨h11, hM⟩) hK hT hB (hf 38 (by decide)) (hf 39 (by decide)) (hf 43 (by decide)) (hf 44 (by decide)) (hg.1 12 (by decide) (by decide) (by decide) (by decide) (by decide) (by decide)) (hg.1 13 (by decide) (by decide) (by decide) (by decide) (by decide) (by decide)) hg.2
theorem rs_t {σ τ υ : sf_St} (h1 : rs_h σ τ) (h2 : rs_h τ υ) : rs_h σ υ := ⟨fun c a1 a2 a3 a4 a5 a6 => (h2.1 c a1 a2 a3 a4 a5 a6).trans (h1.1 c a1 a2 a3 a4 a5 a6), fun j j1 j2 => (h2.2 j j1 j2).trans (h1.2 j j1 j2)⟩
theorem op_row (σ σ' : sf_St) (a0 : Int32) (h : Inv σ σ') : ∃ (r : Int32) (τ τ' : sf_St), R_X6_row σ a0 r τ ∧ R_X7_row σ' a0 r τ' ∧ Inv τ τ' := by
  obtain ⟨d, hw, hc, hm, hC, hM, hK, hT, hB⟩ := h
  have h7 := hw.1.1
  obtain ⟨τ', r1, r2, r3, r4, r5⟩ := sp_search hw hm hM
  have hg : rs_h σ' τ' := ⟨fun c a1 a2 a3 a4 a5 _ => r2.1 c a1 a2 a3 a4 a5, r2.2⟩
  have n01 : ¬ ((1 : Int32) = 0) := by decide
  unfold R_X6_row R_X7_row
  rcases sp_has (u := a0) (n := pd_n d) (by omega) with h | ⟨a, ha, rfl⟩
  · refine ⟨-1, σ, τ', ⟨0, σ, sp_hasAtom_no hc h, by simp⟩, ⟨τ', r1, 0, τ', sp_mAtom_no r3 h, by simp⟩, ?_⟩
    exact inv_of hw hc r3 hC (Or.inr ⟨r4, r5⟩) hK hT hB rfl rfl rfl rfl (hg.1 12 (by decide) (by decide) (by decide) (by decide) (by decide) (by decide)) (hg.1 13 (by decide) (by decide) (by decide) (by decide) (by decide) (by decide)) hg.2
  · obtain ⟨τ, t1, t2, t3, t4, t5⟩ := sp_settle hw hc hC hB
    refine ⟨nI ((pd_K d).1.getD a 0), τ, τ', ⟨1, σ, sp_hasAtom_yes hw hc ha, ?_⟩, ⟨τ', r1, 1, τ', sp_mAtom_yes hw r3 ha, ?_⟩, inv_ss hw hc hK hT t2 t3 t4 t5 hg r3 r4 r5⟩
    · rw [if_neg n01]
      refine ⟨τ, t1, sp_in (by omega) (by decide), ?_, rfl⟩
      rw [sp_ix (by omega)]
      exact (t4.2.2.2.1 a ha).1.symm
    · rw [if_neg n01]
      refine ⟨sp_in (by omega) (by decide), ?_, rfl⟩
      rw [sp_ix (by omega)]
      exact (r5.2.1 a ha).symm
theorem op_senses (σ σ' : sf_St) (h : Inv σ σ') : ∃ (r : Int32) (τ τ' : sf_St), R_X6_senses σ r τ ∧ R_X7_senses σ' r τ' ∧ Inv τ τ' := by
  obtain ⟨d, hw, hc, hm, hC, hM, hK, hT, hB⟩ := h
  obtain ⟨τ, t1, t2, t3, t4, t5⟩ := sp_settle hw hc hC hB
  obtain ⟨τ', r1, r2, r3, r4, r5⟩ := sp_mL0 hw hm hM
  exact ⟨_, τ, τ', ⟨τ, t1, t4.2.2.1.2.1.symm, rfl⟩, ⟨_, τ', r1, rfl, rfl⟩, inv_ss hw hc hK hT t2 t3 t4 t5 r2 r3 r4 r5⟩
theorem op_chiral (σ σ' : sf_St) (h : Inv σ σ') : ∃ (r : Int32) (τ τ' : sf_St), R_X6_chiral σ r τ ∧ R_X7_chiral σ' r τ' ∧ Inv τ τ' := by
  obtain ⟨d, hw, hc, hm, hC, hM, hK, hT, hB⟩ := h
  obtain ⟨τ, t1, t2, t3, t4, t5⟩ := sp_settle hw hc hC hB
  obtain ⟨τ1, r1, r2, r3, r4, r5⟩ := sp_mL0 hw hm hM
  obtain ⟨τ', s1, s2, s3, s4, s5⟩ := sp_mL127 hw r3 (Or.inr ⟨r4, r5⟩)
  have e1 := t4.2.2.1.2.1
  have e2 := t4.2.2.1.2.2
  have hI := inv_ss hw hc hK hT t2 t3 t4 t5 (rs_t r2 s2) s3 s4 s5
  by_cases hq : nI (pd_mf d (pd_cs d) (pd_hs d)).1 = nI (pd_mf d (fun a => - pd_cs d a) (pd_hs d)).1
  · refine ⟨0, τ, τ', ⟨τ, t1, ?_⟩, ⟨_, τ1, r1, _, τ', s1, ?_⟩, hI⟩
    · rw [e1, e2, if_pos hq.symm]; exact ⟨rfl, rfl⟩
    · rw [if_pos hq]; exact ⟨rfl, rfl⟩
  · refine ⟨1, τ, τ', ⟨τ, t1, ?_⟩, ⟨_, τ1, r1, _, τ', s1, ?_⟩, hI⟩
    · rw [e1, e2, if_neg (fun q => hq q.symm)]; exact ⟨rfl, rfl⟩
    · rw [if_neg hq]; exact ⟨rfl, rfl⟩
theorem sp_mKeep_1 (h7 : pd_n d ≤ 7) : ∀ m k (σ : sf_St), k + m = pd_n d → σ 0 0 = nI (pd_n d) → ∃ τ, Rn_R_X7_keep 1 σ (nI k) (nI (pd_n d)) τ ∧ (∀ c, c ≠ 12 → τ c = σ c) ∧ ∀ i, i < pd_n d → τ 12 i = if k ≤ i then σ 10 i else σ 12 i := by
  intro m
  induction m with
  | zero =>
    intro k σ hk h0
    have hk' : k = pd_n d := by omega
    subst hk'
    refine ⟨σ, ?_, fun _ _ => rfl, fun i hi => by rw [if_neg (by omega)]⟩
    apply ru_R_X7_keep_1
    unfold tr_R_X7_keep_1
    rw [h0, if_pos (nI_le (by omega) (by omega))]
    exact ⟨rfl, rfl⟩
  | succ m ih =>
    intro k σ hk h0
    obtain ⟨τ, t1, t2, t3⟩ := ih (k + 1) (sf_up σ 12 k (σ 10 k)) (by omega) (by rw [sf_up_ne _ _ _ (by decide)]; exact h0)
    refine ⟨τ, ?_, fun c hc => (t2 c hc).trans (sf_up_ne _ _ _ hc), fun i hi => ?_⟩
    · apply ru_R_X7_keep_1
      unfold tr_R_X7_keep_1
      rw [h0, if_neg (nI_ge (by omega) (by omega)), sp_ix (by omega)]
      refine ⟨sp_in (by omega) (by decide), sp_in (by omega) (by decide), ?_⟩
      intro s hs y hy
      rw [sp_inc] at hy
      subst hs
      subst hy
      exact t1
    · rw [t3 i hi, sf_up_ne _ _ _ (by decide : (10 : Nat) ≠ 12), sf_up_at, if_pos rfl]
      by_cases q1 : k + 1 ≤ i
      · rw [if_pos q1, if_pos (by omega)]
      · rw [if_neg q1]
        by_cases q2 : i = k
        · rw [if_pos q2, if_pos (by omega), q2]
        · rw [if_neg q2, if_neg (by omega)]
theorem op_keep (σ σ' : sf_St) (h : Inv σ σ') : ∃ (r : Int32) (τ τ' : sf_St), R_X6_keep σ r τ ∧ R_X7_keep σ' r τ' ∧ Inv τ τ' := by
  obtain ⟨d, hw, hc, hm, hC, hM, hK, hT, hB⟩ := h
  have h7 := hw.1.1
  obtain ⟨τ, t1, t2, t3, t4, t5⟩ := sp_settle hw hc hC hB
  obtain ⟨τ1, r1, r2, r3, r4, r5⟩ := sp_mL0 hw hm hM
  have hcτ : cD d τ := cD_fr hc (fun c h1 h2 => t2 c (by omega))
  have e0 := t4.2.2.1.1
  have e1 := t4.2.2.1.2.1
  -- the class
  obtain ⟨υ, hυ⟩ : ∃ t, t = sf_up (sf_up (sf_upc τ 39 (va_cpy (τ 37) (τ 39) (sf_ix 0) (sf_ix 0) (sf_ix 7))) 38 0 (τ 36 0)) 38 2 (τ 36 2) := ⟨_, rfl⟩
  have d1 : R_X1_copyFrom τ υ := by
    unfold R_X1_copyFrom
    refine ⟨υ, ?_, rfl⟩
    unfold R_X1_take
    simp only [forall_eq]
    exact hυ
  have d2 : ∀ c, c ≠ 38 → c ≠ 39 → υ c = τ c := fun c q1 q2 => by rw [hυ, sf_up_ne _ _ _ q1, sf_up_ne _ _ _ q1, sf_upc_ne _ _ q2]
  have d3 : ∀ j, j < 7 → υ 39 j = τ 37 j := fun j hj => by
    rw [hυ, sf_up_ne _ _ _ (by decide), sf_up_ne _ _ _ (by decide), sf_upc_eq]
    exact (pk_cpy_in (Nat.zero_le _) (by show j < 0 + 7; omega)).trans (by show τ 37 (0 + (j - 0)) = _; rw [Nat.zero_add, Nat.sub_zero])
  have d4 : υ 38 0 = nI (pd_n d) := by rw [hυ, sf_up_at, if_pos rfl, if_neg (by decide), sf_up_at, if_pos rfl, if_pos rfl]; exact e0
  have d5 : υ 38 2 = nI (pd_mf d (pd_cs d) (pd_hs d)).1 := by rw [hυ, sf_up_at, if_pos rfl, if_pos rfl]; exact e1
  -- the reference
  obtain ⟨ρ, hρ⟩ : ∃ t, t = sf_up (sf_up (sf_up τ1 0 18 (nI (pd_mf d (pd_cs d) (pd_hs d)).1)) 0 16 (nI (pd_n d))) 0 15 1 := ⟨_, rfl⟩
  have f0 : ∀ j, j ≠ 15 → j ≠ 16 → j ≠ 18 → ρ 0 j = τ1 0 j := fun j q1 q2 q3 => by rw [hρ, sf_up_at, if_pos rfl, if_neg q1, sf_up_at, if_pos rfl, if_neg q2, sf_up_at, if_pos rfl, if_neg q3]
  have f1 : ∀ c, c ≠ 0 → ρ c = τ1 c := fun c q => by rw [hρ, sf_up_ne _ _ _ q, sf_up_ne _ _ _ q, sf_up_ne _ _ _ q]
  have f15 : ρ 0 15 = 1 := by rw [hρ, sf_up_at, if_pos rfl, if_pos rfl]
  have f16 : ρ 0 16 = nI (pd_n d) := by rw [hρ, sf_up_at, if_pos rfl, if_neg (by decide), sf_up_at, if_pos rfl, if_pos rfl]
  have f18 : ρ 0 18 = nI (pd_mf d (pd_cs d) (pd_hs d)).1 := by rw [hρ, sf_up_at, if_pos rfl, if_neg (by decide), sf_up_at, if_pos rfl, if_neg (by decide), sf_up_at, if_pos rfl, if_pos rfl]
  obtain ⟨τ', s1, s2, s3⟩ := sp_mKeep_1 h7 (pd_n d) 0 ρ (by omega) (by rw [f0 0 (by decide) (by decide) (by decide)]; exact r3.1.1)
  refine ⟨nI (pd_n d), υ, τ', ⟨τ, t1, υ, d1, d4.symm, rfl⟩, ?_, ?_⟩
  · unfold R_X7_keep
    apply ru_R_X7_keep_0
    unfold tr_R_X7_keep_0
    refine ⟨_, τ1, r1, ?_⟩
    intro a ha b hb c hc'
    have : c = ρ := by
      rw [hc', hb, ha, hρ, sf_up_at, if_pos rfl, if_neg (by decide), r3.1.1]
    rw [this]
    exact s1
  · have mdr : mD d τ' := mD_fr r3 (by rw [s2 0 (by decide), f0 0 (by decide) (by decide) (by decide), f0 4 (by decide) (by decide) (by decide)]; exact ⟨rfl, rfl⟩) (fun c c1 c2 => by rw [s2 c (by omega), f1 c (by omega)])
    refine ⟨d, hw, cD_fr hcτ (fun c h1 h2 => d2 c (by omega) (by omega)), mdr, Or.inr ⟨?_, ?_⟩, Or.inr ⟨?_, ?_⟩, Or.inr ⟨pd_n d, h7, d4, ?_, ?_, fun i hi => ?_, ?_⟩, ?_, ?_⟩
    · rw [d2 0 (by decide) (by decide)]; exact t3
    · unfold cS
      rw [d2 0 (by decide) (by decide), d2 18 (by decide) (by decide), d2 19 (by decide) (by decide), d2 20 (by decide) (by decide), d2 36 (by decide) (by decide), d2 37 (by decide) (by decide), d2 28 (by decide) (by decide), d2 35 (by decide) (by decide), d2 41 (by decide) (by decide), d2 42 (by decide) (by decide)]
      exact t4
    · rw [s2 0 (by decide), f0 11 (by decide) (by decide) (by decide)]; exact r4
    · unfold mS
      rw [s2 0 (by decide), s2 10 (by decide), s2 11 (by decide), f0 13 (by decide) (by decide) (by decide), f1 10 (by decide), f1 11 (by decide)]
      exact r5
    · rw [s2 0 (by decide)]; exact f15
    · rw [s2 0 (by decide)]; exact f16
    · rw [d3 i (by omega), s3 i hi, if_pos (Nat.zero_le _), f1 10 (by decide), (t4.2.2.2.1 i hi).1, r5.2.1 i hi]
    · rw [s2 0 (by decide), f18]; exact d5
    · unfold iv_T
      rw [d2 43 (by decide) (by decide), d2 44 (by decide) (by decide), t2 43 (by decide), t2 44 (by decide), s2 0 (by decide), s2 13 (by decide), f0 19 (by decide) (by decide) (by decide), f1 13 (by decide), r2.2 19 (by decide) (by decide), r2.1 13 (by decide) (by decide) (by decide) (by decide) (by decide) (by decide)]
      exact hT
    · unfold iv_B
      rw [d2 20 (by decide) (by decide), d2 25 (by decide) (by decide)]
      exact t5
theorem sp_cmp_no (σ : sf_St) (u0 u2 : Int32) : Rn_R_X7_compare 1 σ u0 0 u2 3 σ := by
  apply ru_R_X7_compare_1
  unfold tr_R_X7_compare_1
  by_cases q : σ 0 0 ≤ u2
  · rw [if_pos q, if_pos rfl]; exact ⟨rfl, rfl⟩
  · rw [if_neg q, if_pos rfl, if_pos rfl]; exact ⟨rfl, rfl⟩
theorem sp_cmp_1 (h7 : pd_n d ≤ 7) {σ σ' : sf_St} (h36 : σ 36 0 = nI (pd_n d)) (h00 : σ' 0 0 = nI (pd_n d)) (hr : ∀ i, i < pd_n d → σ 37 i = σ' 10 i) (hk : ∀ i, i < pd_n d → σ 39 i = σ' 12 i) (u0 : Int32) : ∀ m k, k + m = pd_n d →
    (Rn_R_X1_hasRowsOf 1 σ (nI k) 0 σ ∧ Rn_R_X7_compare 1 σ' u0 1 (nI k) 3 σ') ∨ (Rn_R_X1_hasRowsOf 1 σ (nI k) 1 σ ∧ ∀ r τ', Rn_R_X7_compare 1 σ' u0 1 (nI (pd_n d)) r τ' → Rn_R_X7_compare 1 σ' u0 1 (nI k) r τ') := by
  intro m
  induction m with
  | zero =>
    intro k hk
    have hk' : k = pd_n d := by omega
    subst hk'
    refine Or.inr ⟨?_, fun r τ' hx => hx⟩
    apply ru_R_X1_hasRowsOf_1
    unfold tr_R_X1_hasRowsOf_1
    rw [h36, if_pos (nI_le (by omega) (by omega))]
    exact ⟨rfl, rfl⟩
  | succ m ih =>
    intro k hkm
    have n01 : ¬ ((1 : Int32) = 0) := by decide
    have ik : vp_in (nI k) 7 := sp_in (by omega) (by decide)
    by_cases hq : σ 37 k = σ 39 k
    · have hq' : σ' 12 k = σ' 10 k := by rw [← hk k (by omega), ← hr k (by omega), hq]
      have hx : ∀ r τ', Rn_R_X7_compare 1 σ' u0 1 (nI (k + 1)) r τ' → Rn_R_X7_compare 1 σ' u0 1 (nI k) r τ' := by
        intro r τ' hx
        apply ru_R_X7_compare_1
        unfold tr_R_X7_compare_1
        rw [h00, if_neg (nI_ge (by omega) (by omega)), if_neg n01, sp_ix (by omega), if_pos hq']
        refine ⟨ik, ik, ?_⟩
        intro y hy
        rw [sp_inc] at hy
        subst hy
        exact hx
      have hy : ∀ r, Rn_R_X1_hasRowsOf 1 σ (nI (k + 1)) r σ → Rn_R_X1_hasRowsOf 1 σ (nI k) r σ := by
        intro r hx
        apply ru_R_X1_hasRowsOf_1
        unfold tr_R_X1_hasRowsOf_1
        rw [h36, if_neg (nI_ge (by omega) (by omega)), sp_ix (by omega), if_pos hq]
        refine ⟨ik, ik, ?_⟩
        intro y hy
        rw [sp_inc] at hy
        subst hy
        exact hx
      rcases ih (k + 1) (by omega) with ⟨i1, i2⟩ | ⟨i1, i2⟩
      · exact Or.inl ⟨hy _ i1, hx _ _ i2⟩
      · exact Or.inr ⟨hy _ i1, fun r τ' q => hx _ _ (i2 r τ' q)⟩
    · have hq' : ¬ σ' 12 k = σ' 10 k := fun q => hq (by rw [hk k (by omega), hr k (by omega), q])
      refine Or.inl ⟨?_, ?_⟩
      · apply ru_R_X1_hasRowsOf_1
        unfold tr_R_X1_hasRowsOf_1
        rw [h36, if_neg (nI_ge (by omega) (by omega)), sp_ix (by omega), if_neg hq]
        exact ⟨ik, ik, rfl, rfl⟩
      · apply ru_R_X7_compare_1
        unfold tr_R_X7_compare_1
        rw [h00, if_neg (nI_ge (by omega) (by omega)), if_neg n01, sp_ix (by omega), if_neg hq']
        refine ⟨ik, ik, ?_⟩
        intro y hy
        rw [sp_inc] at hy
        subst hy
        exact sp_cmp_no _ _ _
theorem op_compare (σ σ' : sf_St) (h : Inv σ σ') : ∃ (r : Int32) (τ τ' : sf_St), R_X6_compare σ r τ ∧ R_X7_compare σ' r τ' ∧ Inv τ τ' := by
  obtain ⟨d, hw, hc, hm, hC, hM, hK, hT, hB⟩ := h
  have h7 := hw.1.1
  have n01 : ¬ ((1 : Int32) = 0) := by decide
  obtain ⟨τ, t1, t2, t3, t4, t5⟩ := sp_settle hw hc hC hB
  obtain ⟨τ1, r1, r2, r3, r4, r5⟩ := sp_mL0 hw hm hM
  have hI := inv_ss hw hc hK hT t2 t3 t4 t5 r2 r3 r4 r5
  have e0 := t4.2.2.1.1
  have e1 := t4.2.2.1.2.1
  have e2 := t4.2.2.1.2.2
  have hK' : iv_K τ τ1 := by
    unfold iv_K
    rw [t2 38 (by decide), t2 39 (by decide), r2.1 12 (by decide) (by decide) (by decide) (by decide) (by decide) (by decide), r2.2 15 (by decide) (by decide), r2.2 16 (by decide) (by decide), r2.2 18 (by decide) (by decide)]
    exact hK
  rcases hK' with ⟨k1, k2⟩ | ⟨k, hk7, k1, k2, k3, k4, k5⟩
  · refine ⟨3, τ, τ1, ⟨τ, t1, 0, τ, ?_, ?_⟩, ?_, hI⟩
    · unfold R_X1_hasRowsOf
      apply ru_R_X1_hasRowsOf_0
      unfold tr_R_X1_hasRowsOf_0
      rw [e0, k1, if_neg (fun q => by
        have := (sp_he_m1 hw)
        have h8 : ∀ n, n ≤ 7 → ¬ (nI n = (-1 : Int32)) := by decide
        exact h8 _ h7 q)]
      exact ⟨rfl, rfl⟩
    · rw [if_pos rfl]; exact ⟨rfl, rfl⟩
    · unfold R_X7_compare
      apply ru_R_X7_compare_0
      unfold tr_R_X7_compare_0
      refine ⟨_, τ1, r1, ?_⟩
      rw [k2, if_pos rfl]
      exact sp_cmp_no _ _ _
  · by_cases hkn : k = pd_n d
    · subst hkn
      have hd := sp_cmp_1 (d := d) h7 (σ := τ) (σ' := τ1) e0 r3.1.1 (fun i hi => by rw [(t4.2.2.2.1 i hi).1, r5.2.1 i hi]) k4 (nI (pd_mf d (pd_cs d) (pd_hs d)).1) (pd_n d) 0 (by omega)
      have hcl : ∀ r, Rn_R_X1_hasRowsOf 1 τ (nI 0) r τ → R_X1_hasRowsOf τ r τ := fun r hx => by
        unfold R_X1_hasRowsOf
        apply ru_R_X1_hasRowsOf_0
        unfold tr_R_X1_hasRowsOf_0
        rw [e0, k1, if_pos rfl]
        exact hx
      have hrf : ∀ r τ', Rn_R_X7_compare 1 τ1 (nI (pd_mf d (pd_cs d) (pd_hs d)).1) 1 (nI 0) r τ' → R_X7_compare σ' r τ' := fun r τ' hx => by
        unfold R_X7_compare
        apply ru_R_X7_compare_0
        unfold tr_R_X7_compare_0
        refine ⟨_, τ1, r1, ?_⟩
        rw [k2, if_neg n01, k3, r3.1.1, if_pos rfl]
        exact hx
      rcases hd with ⟨i1, i2⟩ | ⟨i1, i2⟩
      · refine ⟨3, τ, τ1, ⟨τ, t1, 0, τ, hcl _ i1, ?_⟩, hrf _ _ i2, hI⟩
        rw [if_pos rfl]; exact ⟨rfl, rfl⟩
      · by_cases q1 : τ 36 2 = τ 38 2
        · refine ⟨0, τ, τ1, ⟨τ, t1, 1, τ, hcl _ i1, ?_⟩, hrf _ _ (i2 _ _ ?_), hI⟩
          · rw [if_neg n01, if_pos q1]; exact ⟨rfl, rfl⟩
          · apply ru_R_X7_compare_1
            unfold tr_R_X7_compare_1
            rw [r3.1.1, if_pos (nI_le (by omega) (by omega)), if_neg n01, if_pos (by rw [← k5, ← q1, e1])]
            exact ⟨rfl, rfl⟩
        · obtain ⟨τ', s1, s2, s3, s4, s5⟩ := sp_mL127 hw r3 (Or.inr ⟨r4, r5⟩)
          have hI' := inv_ss hw hc hK hT t2 t3 t4 t5 (rs_t r2 s2) s3 s4 s5
          have k5' : τ 38 2 = τ' 0 18 := by rw [s2.2 18 (by decide) (by decide)]; exact k5
          have q1' : ¬ (nI (pd_mf d (pd_cs d) (pd_hs d)).1 = τ1 0 18) := by rw [← k5, ← e1]; exact q1
          by_cases q2 : τ 0 9 = τ 38 2
          · refine ⟨2, τ, τ', ⟨τ, t1, 1, τ, hcl _ i1, ?_⟩, hrf _ _ (i2 _ _ ?_), hI'⟩
            · rw [if_neg n01, if_neg q1, if_pos q2]; exact ⟨rfl, rfl⟩
            · apply ru_R_X7_compare_1
              unfold tr_R_X7_compare_1
              rw [r3.1.1, if_pos (nI_le (by omega) (by omega)), if_neg n01, if_neg q1']
              refine ⟨_, τ', s1, ?_⟩
              rw [if_pos (by rw [← k5', ← q2, e2])]
              exact ⟨rfl, rfl⟩
          · refine ⟨1, τ, τ', ⟨τ, t1, 1, τ, hcl _ i1, ?_⟩, hrf _ _ (i2 _ _ ?_), hI'⟩
            · rw [if_neg n01, if_neg q1, if_neg q2]; exact ⟨rfl, rfl⟩
            · apply ru_R_X7_compare_1
              unfold tr_R_X7_compare_1
              rw [r3.1.1, if_pos (nI_le (by omega) (by omega)), if_neg n01, if_neg q1']
              refine ⟨_, τ', s1, ?_⟩
              rw [if_neg (by rw [← k5', ← e2]; exact q2)]
              exact ⟨rfl, rfl⟩
    · refine ⟨3, τ, τ1, ⟨τ, t1, 0, τ, ?_, ?_⟩, ?_, hI⟩
      · unfold R_X1_hasRowsOf
        apply ru_R_X1_hasRowsOf_0
        unfold tr_R_X1_hasRowsOf_0
        rw [e0, k1, if_neg (fun q => hkn ((nI_eq (by omega) (by omega)).mp q).symm)]
        exact ⟨rfl, rfl⟩
      · rw [if_pos rfl]; exact ⟨rfl, rfl⟩
      · unfold R_X7_compare
        apply ru_R_X7_compare_0
        unfold tr_R_X7_compare_0
        refine ⟨_, τ1, r1, ?_⟩
        rw [k2, if_neg n01, k3, r3.1.1, if_neg (fun q => hkn ((nI_eq (by omega) (by omega)).mp q))]
        exact sp_cmp_no _ _ _
end OPS
