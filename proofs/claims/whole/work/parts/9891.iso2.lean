/-! the class: the senses that are drawn, counted; some of them turned -/
section ISO2
variable {d : pd_D}
def pd_u (d : pd_D) (p : Nat) : Bool := if p < 7 then decide (p < pd_n d ∧ pd_cs d p ≠ 0) else decide (p - 7 < pd_b d ∧ pd_hs d (p - 7) ≠ 0)
theorem pd_u_a (h : pd_W d) {a : Nat} (ha : a < pd_n d) : pd_u d a = true ↔ pd_cs d a ≠ 0 := by
  have h7 := h.1.1
  unfold pd_u
  rw [if_pos (by omega), decide_eq_true_iff]
  exact ⟨fun q => q.2, fun q => ⟨ha, q⟩⟩
theorem pd_u_ga {a : Nat} (ha : pd_n d ≤ a) (h7 : a < 7) : ¬ pd_u d a = true := by
  unfold pd_u
  rw [if_pos h7, decide_eq_true_iff]
  intro q
  omega
theorem pd_u_k {k : Nat} (hk : k < pd_b d) : pd_u d (7 + k) = true ↔ pd_hs d k ≠ 0 := by
  unfold pd_u
  have e : 7 + k - 7 = k := by omega
  rw [if_neg (by omega), decide_eq_true_iff, e]
  exact ⟨fun q => q.2, fun q => ⟨hk, q⟩⟩
theorem pd_u_gk {k : Nat} (hk : pd_b d ≤ k) : ¬ pd_u d (7 + k) = true := by
  unfold pd_u
  rw [if_neg (by omega), decide_eq_true_iff]
  intro q
  omega
def pd_c (d : pd_D) : Nat := dp_ct (pd_u d) 16 0
theorem pd_c_eq (h : pd_W d) : dp_cp (pd_u d) (7 + pd_b d) = pd_c d ∧ dp_ap (pd_u d) (7 + pd_b d) = dp_al (pd_u d) 16 0 := by
  have h9 := h.1.2
  have hs := dp_p_skip (pd_u d) (9 - pd_b d) (7 + pd_b d) (fun q h1 h2 => by
    have e : q = 7 + (q - 7) := by omega
    rw [e]
    exact pd_u_gk (by omega))
  have e : 7 + pd_b d + (9 - pd_b d) = 16 := by omega
  rw [e] at hs
  have e1 := dp_cp_ct (pd_u d) 16 0
  have e2 := dp_ap_al (pd_u d) 16 0
  have z1 : dp_cp (pd_u d) 0 = 0 := rfl
  have z2 : dp_ap (pd_u d) 0 = 0 := rfl
  rw [Nat.zero_add, z1, Nat.zero_add] at e1
  rw [Nat.zero_add, z2, Nat.zero_add, Nat.pow_zero, Nat.one_mul] at e2
  exact ⟨by rw [← hs.2, e1]; rfl, by rw [← hs.1, e2]⟩
theorem pd_c_7 (h : pd_W d) : dp_cp (pd_u d) (7 + 0) = dp_cp (pd_u d) (pd_n d) ∧ dp_ap (pd_u d) (7 + 0) = dp_ap (pd_u d) (pd_n d) := by
  have h7 := h.1.1
  have hs := dp_p_skip (pd_u d) (7 - pd_n d) (pd_n d) (fun q h1 h2 => pd_u_ga h1 (by omega))
  have e : pd_n d + (7 - pd_n d) = 7 + 0 := by omega
  rw [e] at hs
  exact ⟨hs.2, hs.1⟩
theorem nI_a0 (a : Nat) : nI a + (0 : Int32) = nI a := nI_add a 0
theorem sp_count_2 (h : pd_W d) {σ : sf_St} (hc : cD d σ) (hB : ∀ k, k < pd_b d → σ 19 k = iI (pd_hs d k)) : ∀ m k, k + m = pd_b d → Rn_R_X4_countDrawn 2 σ (nI (dp_cp (pd_u d) (7 + k))) (nI k) (nI (dp_cp (pd_u d) (7 + pd_b d))) σ := by
  have h9 := h.1.2
  intro m
  induction m with
  | zero =>
    intro k hk
    have hk' : k = pd_b d := by omega
    subst hk'
    apply ru_R_X4_countDrawn_2
    unfold tr_R_X4_countDrawn_2
    rw [hc.1.2, if_pos (nI_le (by omega) (by omega))]
    exact ⟨rfl, rfl⟩
  | succ m ih =>
    intro k hk
    have ih' := ih (k + 1) (by omega)
    have es : dp_cp (pd_u d) (7 + (k + 1)) = dp_cp (pd_u d) (7 + k) + if pd_u d (7 + k) = true then 1 else 0 := rfl
    rw [es] at ih'
    apply ru_R_X4_countDrawn_2
    unfold tr_R_X4_countDrawn_2
    rw [hc.1.2, if_neg (nI_ge (by omega) (by omega)), sp_ix (by omega), hB k (by omega)]
    refine ⟨sp_in (by omega) (by decide), ?_⟩
    have hu := pd_u_k (d := d) (k := k) (by omega)
    by_cases q : pd_hs d k = 0
    · rw [if_neg (fun w => hu.mp w q), Nat.add_zero] at ih'
      rw [if_pos ((p3_0 (p3_hs d k)).mpr q)]
      intro y hy z hz
      rw [nI_a0] at hy
      rw [sp_inc] at hz
      subst hy
      subst hz
      exact ih'
    · rw [if_pos (hu.mpr q)] at ih'
      rw [if_neg (fun w => q ((p3_0 (p3_hs d k)).mp w))]
      intro y hy z hz
      rw [sp_inc] at hy
      rw [sp_inc] at hz
      subst hy
      subst hz
      exact ih'
theorem sp_count_1 (h : pd_W d) {σ : sf_St} (hc : cD d σ) (hA : ∀ a, a < pd_n d → σ 18 a = iI (pd_cs d a)) (hB : ∀ k, k < pd_b d → σ 19 k = iI (pd_hs d k)) : ∀ m k, k + m = pd_n d → Rn_R_X4_countDrawn 1 σ (nI (dp_cp (pd_u d) k)) (nI k) (nI (pd_c d)) σ := by
  have h7 := h.1.1
  intro m
  induction m with
  | zero =>
    intro k hk
    have hk' : k = pd_n d := by omega
    subst hk'
    apply ru_R_X4_countDrawn_1
    unfold tr_R_X4_countDrawn_1
    rw [hc.1.1, if_pos (nI_le (by omega) (by omega)), ← (pd_c_7 h).1, ← (pd_c_eq h).1]
    exact sp_count_2 h hc hB (pd_b d) 0 (by omega)
  | succ m ih =>
    intro k hk
    have ih' := ih (k + 1) (by omega)
    have es : dp_cp (pd_u d) (k + 1) = dp_cp (pd_u d) k + if pd_u d k = true then 1 else 0 := rfl
    rw [es] at ih'
    apply ru_R_X4_countDrawn_1
    unfold tr_R_X4_countDrawn_1
    rw [hc.1.1, if_neg (nI_ge (by omega) (by omega)), sp_ix (by omega), hA k (by omega)]
    refine ⟨sp_in (by omega) (by decide), ?_⟩
    have hu := pd_u_a h (a := k) (by omega)
    by_cases q : pd_cs d k = 0
    · rw [if_neg (fun w => hu.mp w q), Nat.add_zero] at ih'
      rw [if_pos ((p3_0 (p3_cs d k)).mpr q)]
      intro y hy z hz
      rw [nI_a0] at hy
      rw [sp_inc] at hz
      subst hy
      subst hz
      exact ih'
    · rw [if_pos (hu.mpr q)] at ih'
      rw [if_neg (fun w => q ((p3_0 (p3_cs d k)).mp w))]
      intro y hy z hz
      rw [sp_inc] at hy
      rw [sp_inc] at hz
      subst hy
      subst hz
      exact ih'
theorem sp_count (h : pd_W d) {σ : sf_St} (hc : cD d σ) (hS : cS d σ) : R_X4_countDrawn σ (nI (pd_c d)) σ := by
  unfold R_X4_countDrawn
  apply ru_R_X4_countDrawn_0
  unfold tr_R_X4_countDrawn_0
  exact sp_count_1 h hc hS.1 (fun k hk => (hS.2.1 k hk).1) (pd_n d) 0 (by omega)
theorem nb_div (M p : Nat) : M / 2 ^ (p + 1) = M / 2 ^ p / 2 := by
  rw [Nat.pow_succ, ← Nat.div_div_eq_div_mul]
theorem sp_tS_2 (h : pd_W d) {M : Nat} (u0 : Int32) : ∀ m k (σ : sf_St) (left : Nat), k + m = pd_b d → σ 1 8 = nI (pd_b d) → left < 2 ^ 31 → M / 2 ^ (7 + k) = dp (pd_u d) (9 - k) (7 + k) left → (∀ j, j < pd_b d → σ 24 j = iI (if j < k then tB d M j else pd_hs d j)) →
    ∃ τ, Rn_R_X4_turnSome 2 σ u0 (nI left) (nI k) τ ∧ (∀ c, c ≠ 24 → τ c = σ c) ∧ ∀ j, j < pd_b d → τ 24 j = iI (tB d M j) := by
  have h9 := h.1.2
  intro m
  induction m with
  | zero =>
    intro k σ left hk h18 hl hM h24
    have hk' : k = pd_b d := by omega
    subst hk'
    refine ⟨σ, ?_, fun _ _ => rfl, fun j hj => by rw [h24 j hj, if_pos hj]⟩
    apply ru_R_X4_turnSome_2
    unfold tr_R_X4_turnSome_2
    rw [h18, if_pos (nI_le (by omega) (by omega))]
  | succ m ih =>
    intro k σ left hk h18 hl hM h24
    have e9 : 9 - k = (9 - (k + 1)) + 1 := by omega
    rw [e9] at hM
    have ek := h24 k (by omega)
    rw [if_neg (Nat.lt_irrefl _)] at ek
    have hu := pd_u_k (d := d) (k := k) (by omega)
    have ik : vp_in (nI k) 9 := sp_in (by omega) (by decide)
    by_cases q : pd_hs d k = 0
    · have hM' := dp_nobit (pd_u d) (m := 9 - (k + 1)) (p := 7 + k) (w := left) (fun w => hu.mp w q)
      rw [← hM, ← nb_div] at hM'
      have tz : tB d M k = 0 := by
        unfold tB
        rw [q]
        split <;> rfl
      obtain ⟨τ, t1, t2, t3⟩ := ih (k + 1) σ left (by omega) h18 hl hM' (fun j hj => by
        rw [h24 j hj]
        by_cases q2 : j = k
        · subst q2
          rw [if_neg (Nat.lt_irrefl _), if_pos (by omega), tz, q]
        · by_cases q3 : j < k
          · rw [if_pos q3, if_pos (by omega)]
          · rw [if_neg q3, if_neg (by omega)])
      refine ⟨τ, ?_, t2, t3⟩
      apply ru_R_X4_turnSome_2
      unfold tr_R_X4_turnSome_2
      rw [h18, if_neg (nI_ge (by omega) (by omega)), sp_ix (by omega), ek]
      refine ⟨ik, ?_⟩
      rw [if_pos ((p3_0 (p3_hs d k)).mpr q)]
      intro y hy
      rw [sp_inc] at hy
      subst hy
      exact t1
    · have hb := dp_bit (pd_u d) (m := 9 - (k + 1)) (p := 7 + k) (w := left) (hu.mpr q)
      rw [← hM, ← nb_div] at hb
      have tz : tB d M k = if left % 2 = 1 then - pd_hs d k else pd_hs d k := by
        unfold tB
        rw [hb.1]
      have nx : ∀ v : Int32, v = iI (tB d M k) → ∃ τ, Rn_R_X4_turnSome 2 (sf_up σ 24 k v) u0 (nI (left / 2)) (nI (k + 1)) τ ∧ (∀ c, c ≠ 24 → τ c = σ c) ∧ ∀ j, j < pd_b d → τ 24 j = iI (tB d M j) := by
        intro v hv
        obtain ⟨τ, t1, t2, t3⟩ := ih (k + 1) (sf_up σ 24 k v) (left / 2) (by omega) (by rw [sf_up_ne _ _ _ (by decide)]; exact h18) (by omega) hb.2 (fun j hj => by
          rw [sf_up_at, if_pos rfl]
          by_cases q2 : j = k
          · subst q2
            rw [if_pos rfl, if_pos (by omega), hv]
          · rw [if_neg q2, h24 j hj]
            by_cases q3 : j < k
            · rw [if_pos q3, if_pos (by omega)]
            · rw [if_neg q3, if_neg (by omega)])
        exact ⟨τ, t1, fun c hc => (t2 c hc).trans (sf_up_ne _ _ _ hc), t3⟩
      have ea : nI left &&& (1 : Int32) = nI (left % 2) := pk_andN (k := 1) (by omega) (by decide)
      have er : nI left >>> ((1 : Int32) &&& 31) = nI (left / 2) := pk_shrN hl _ 1 (by decide)
      by_cases q1 : left % 2 = 1
      · rw [if_pos q1] at tz
        obtain ⟨τ, t1, t2, t3⟩ := nx (- iI (pd_hs d k)) (by rw [tz, iI_neg])
        refine ⟨τ, ?_, t2, t3⟩
        apply ru_R_X4_turnSome_2
        unfold tr_R_X4_turnSome_2
        rw [h18, if_neg (nI_ge (by omega) (by omega)), sp_ix (by omega), ek]
        refine ⟨ik, ?_⟩
        rw [if_neg (fun w => q ((p3_0 (p3_hs d k)).mp w)), ea, er, q1, if_neg (by decide)]
        refine ⟨ik, ik, ?_⟩
        intro s hs y hy z hz
        rw [sp_inc] at hz
        subst hs
        subst hy
        subst hz
        exact t1
      · rw [if_neg q1] at tz
        have q0 : left % 2 = 0 := by omega
        obtain ⟨τ, t1, t2, t3⟩ := nx (iI (pd_hs d k)) (by rw [tz])
        refine ⟨τ, ?_, t2, t3⟩
        apply ru_R_X4_turnSome_2
        unfold tr_R_X4_turnSome_2
        rw [h18, if_neg (nI_ge (by omega) (by omega)), sp_ix (by omega), ek]
        refine ⟨ik, ?_⟩
        rw [if_neg (fun w => q ((p3_0 (p3_hs d k)).mp w)), ea, er, q0, if_pos (by decide)]
        refine ⟨ik, ik, ?_⟩
        intro s hs y hy z hz
        rw [sp_inc] at hz
        subst hs
        subst hy
        subst hz
        exact t1
theorem sp_tS_1 (h : pd_W d) {M : Nat} (u0 : Int32) : ∀ m k (σ : sf_St) (left : Nat), k + m = pd_n d → σ 1 3 = nI (pd_n d) → σ 1 8 = nI (pd_b d) → left < 2 ^ 31 → M / 2 ^ k = dp (pd_u d) (16 - k) k left → (∀ j, j < pd_n d → σ 23 j = iI (if j < k then tA d M j else pd_cs d j)) → (∀ j, j < pd_b d → σ 24 j = iI (pd_hs d j)) →
    ∃ τ, Rn_R_X4_turnSome 1 σ u0 (nI left) (nI k) τ ∧ (∀ c, c ≠ 23 → c ≠ 24 → τ c = σ c) ∧ (∀ j, j < pd_n d → τ 23 j = iI (tA d M j)) ∧ ∀ j, j < pd_b d → τ 24 j = iI (tB d M j) := by
  have h7 := h.1.1
  intro m
  induction m with
  | zero =>
    intro k σ left hk h13 h18 hl hM h23 h24
    have hk' : k = pd_n d := by omega
    subst hk'
    have hM7 : M / 2 ^ (7 + 0) = dp (pd_u d) (9 - 0) (7 + 0) left := by
      have hs := dp_skip (pd_u d) (7 - pd_n d) 9 (pd_n d) left (fun q h1 h2 => pd_u_ga h1 (by omega))
      have e1 : 9 + (7 - pd_n d) = 16 - pd_n d := by omega
      have e2 : pd_n d + (7 - pd_n d) = 7 := by omega
      rw [e1, ← hM, Nat.div_div_eq_div_mul, ← Nat.pow_add, e2] at hs
      exact hs
    obtain ⟨τ, t1, t2, t3⟩ := sp_tS_2 h u0 (pd_b d) 0 σ left (by omega) h18 hl hM7 (fun j hj => by rw [if_neg (Nat.not_lt_zero _)]; exact h24 j hj)
    refine ⟨τ, ?_, fun c _ hc => t2 c hc, fun j hj => by rw [t2 23 (by decide), h23 j hj, if_pos hj], t3⟩
    apply ru_R_X4_turnSome_1
    unfold tr_R_X4_turnSome_1
    rw [h13, if_pos (nI_le (by omega) (by omega))]
    exact t1
  | succ m ih =>
    intro k σ left hk h13 h18 hl hM h23 h24
    have e9 : 16 - k = (16 - (k + 1)) + 1 := by omega
    rw [e9] at hM
    have ek := h23 k (by omega)
    rw [if_neg (Nat.lt_irrefl _)] at ek
    have hu := pd_u_a h (a := k) (by omega)
    have ik : vp_in (nI k) 7 := sp_in (by omega) (by decide)
    by_cases q : pd_cs d k = 0
    · have hM' := dp_nobit (pd_u d) (m := 16 - (k + 1)) (p := k) (w := left) (fun w => hu.mp w q)
      rw [← hM, ← nb_div] at hM'
      have tz : tA d M k = 0 := by
        unfold tA
        rw [q]
        split <;> rfl
      obtain ⟨τ, t1, t2, t3⟩ := ih (k + 1) σ left (by omega) h13 h18 hl hM' (fun j hj => by
        rw [h23 j hj]
        by_cases q2 : j = k
        · subst q2
          rw [if_neg (Nat.lt_irrefl _), if_pos (by omega), tz, q]
        · by_cases q3 : j < k
          · rw [if_pos q3, if_pos (by omega)]
          · rw [if_neg q3, if_neg (by omega)]) h24
      refine ⟨τ, ?_, t2, t3⟩
      apply ru_R_X4_turnSome_1
      unfold tr_R_X4_turnSome_1
      rw [h13, if_neg (nI_ge (by omega) (by omega)), sp_ix (by omega), ek]
      refine ⟨ik, ?_⟩
      rw [if_pos ((p3_0 (p3_cs d k)).mpr q)]
      intro y hy
      rw [sp_inc] at hy
      subst hy
      exact t1
    · have hb := dp_bit (pd_u d) (m := 16 - (k + 1)) (p := k) (w := left) (hu.mpr q)
      rw [← hM, ← nb_div] at hb
      have tz : tA d M k = if left % 2 = 1 then - pd_cs d k else pd_cs d k := by
        unfold tA
        rw [hb.1]
      have nx : ∀ v : Int32, v = iI (tA d M k) → ∃ τ, Rn_R_X4_turnSome 1 (sf_up σ 23 k v) u0 (nI (left / 2)) (nI (k + 1)) τ ∧ (∀ c, c ≠ 23 → c ≠ 24 → τ c = σ c) ∧ (∀ j, j < pd_n d → τ 23 j = iI (tA d M j)) ∧ ∀ j, j < pd_b d → τ 24 j = iI (tB d M j) := by
        intro v hv
        obtain ⟨τ, t1, t2, t3⟩ := ih (k + 1) (sf_up σ 23 k v) (left / 2) (by omega) (by rw [sf_up_ne _ _ _ (by decide)]; exact h13) (by rw [sf_up_ne _ _ _ (by decide)]; exact h18) (by omega) hb.2 (fun j hj => by
          rw [sf_up_at, if_pos rfl]
          by_cases q2 : j = k
          · subst q2
            rw [if_pos rfl, if_pos (by omega), hv]
          · rw [if_neg q2, h23 j hj]
            by_cases q3 : j < k
            · rw [if_pos q3, if_pos (by omega)]
            · rw [if_neg q3, if_neg (by omega)]) (by rw [sf_up_ne _ _ _ (by decide)]; exact h24)
        exact ⟨τ, t1, fun c hc hc' => (t2 c hc hc').trans (sf_up_ne _ _ _ hc), t3⟩
      have ea : nI left &&& (1 : Int32) = nI (left % 2) := pk_andN (k := 1) (by omega) (by decide)
      have er : nI left >>> ((1 : Int32) &&& 31) = nI (left / 2) := pk_shrN hl _ 1 (by decide)
      by_cases q1 : left % 2 = 1
      · rw [if_pos q1] at tz
        obtain ⟨τ, t1, t2, t3⟩ := nx (- iI (pd_cs d k)) (by rw [tz, iI_neg])
        refine ⟨τ, ?_, t2, t3⟩
        apply ru_R_X4_turnSome_1
        unfold tr_R_X4_turnSome_1
        rw [h13, if_neg (nI_ge (by omega) (by omega)), sp_ix (by omega), ek]
        refine ⟨ik, ?_⟩
        rw [if_neg (fun w => q ((p3_0 (p3_cs d k)).mp w)), ea, er, q1, if_neg (by decide)]
        refine ⟨ik, ik, ?_⟩
        intro s hs y hy z hz
        rw [sp_inc] at hz
        subst hs
        subst hy
        subst hz
        exact t1
      · rw [if_neg q1] at tz
        have q0 : left % 2 = 0 := by omega
        obtain ⟨τ, t1, t2, t3⟩ := nx (iI (pd_cs d k)) (by rw [tz])
        refine ⟨τ, ?_, t2, t3⟩
        apply ru_R_X4_turnSome_1
        unfold tr_R_X4_turnSome_1
        rw [h13, if_neg (nI_ge (by omega) (by omega)), sp_ix (by omega), ek]
        refine ⟨ik, ?_⟩
        rw [if_neg (fun w => q ((p3_0 (p3_cs d k)).mp w)), ea, er, q0, if_pos (by decide)]
        refine ⟨ik, ik, ?_⟩
        intro s hs y hy z hz
        rw [sp_inc] at hz
        subst hs
        subst hy
        subst hz
        exact t1
def pd_tm (d : pd_D) (w : Nat) : Nat := dp (pd_u d) 16 0 w
theorem sp_tS (h : pd_W d) {σ : sf_St} (hc : cD d σ) {w : Nat} (hw : w < 2 ^ 31) (hA : ∀ j, j < pd_n d → σ 23 j = iI (pd_cs d j)) (hB : ∀ j, j < pd_b d → σ 24 j = iI (pd_hs d j)) :
    ∃ τ, R_X4_turnSome σ (nI w) τ ∧ (∀ c, c ≠ 23 → c ≠ 24 → τ c = σ c) ∧ (∀ j, j < pd_n d → τ 23 j = iI (tA d (pd_tm d w) j)) ∧ ∀ j, j < pd_b d → τ 24 j = iI (tB d (pd_tm d w) j) := by
  obtain ⟨τ, t1, t2⟩ := sp_tS_1 h (M := pd_tm d w) (nI w) (pd_n d) 0 σ w (by omega) hc.1.1 hc.1.2 hw (by rw [Nat.pow_zero, Nat.div_one]; rfl) (fun j hj => by rw [if_neg (Nat.not_lt_zero _)]; exact hA j hj) hB
  refine ⟨τ, ?_, t2⟩
  unfold R_X4_turnSome
  apply ru_R_X4_turnSome_0
  unfold tr_R_X4_turnSome_0
  exact t1
/-- one way: the senses copied, turned, and the least of them -/
theorem sp_way (h : pd_W d) {σ : sf_St} (hc : cD d σ) (hS : cS d σ) (hB : iv_B σ) {w : Nat} (hw : w < 2 ^ 31) :
    ∃ τ9 τ11 τ13, R_X4_copyFrom σ τ9 ∧ R_X4_turnSome τ9 (nI w) τ11 ∧ R_X3_leastSenses 23 24 25 26 τ11 (nI (pd_mf d (tA d (pd_tm d w)) (tB d (pd_tm d w))).1) τ13 ∧ (∀ c, c ≠ 23 → c ≠ 24 → c ≠ 25 → c ≠ 27 → c ≠ 28 → c ≠ 30 → c ≠ 31 → c ≠ 33 → c ≠ 34 → τ13 c = σ c) ∧ (∀ i, i < pd_n d → τ13 28 i = nI ((pd_K d).1.getD i 0)) ∧ iv_B τ13 := by
  have h7 := h.1.1
  have h9 := h.1.2
  have zz : ∀ c, 18 ≤ c → c ≤ 25 → cz c := fun c h1 h2 => ⟨by omega, by omega, by omega, by omega, by omega, by omega⟩
  obtain ⟨τ9, hτ9⟩ : ∃ t, t = sf_upc (sf_upc (sf_upc σ 23 (va_cpy (σ 18) (σ 23) (sf_ix 0) (sf_ix 0) (sf_ix 7))) 24 (va_cpy (σ 19) (σ 24) (sf_ix 0) (sf_ix 0) (sf_ix 9))) 25 (va_cpy (σ 20) (σ 25) (sf_ix 0) (sf_ix 0) (sf_ix 9)) := ⟨_, rfl⟩
  have f1 : R_X4_copyFrom σ τ9 := by
    unfold R_X4_copyFrom
    simp only [forall_eq]
    refine ⟨fun i hi => ?_, hτ9⟩
    apply sn_fits
    have hi' : i < 9 := hi
    show σ 20 (0 + i) = 0 ∨ σ 20 (0 + i) = 1
    rw [Nat.zero_add]
    exact (hB i hi').1
  have f2 : ∀ c, c ≠ 23 → c ≠ 24 → c ≠ 25 → τ9 c = σ c := fun c q1 q2 q3 => by rw [hτ9, sf_upc_ne _ _ q3, sf_upc_ne _ _ q2, sf_upc_ne _ _ q1]
  have f3 : ∀ j, j < 7 → τ9 23 j = σ 18 j := fun j hj => by
    rw [hτ9, sf_upc_ne _ _ (by decide), sf_upc_ne _ _ (by decide), sf_upc_eq]
    exact (pk_cpy_in (Nat.zero_le _) (by show j < 0 + 7; omega)).trans (by show σ 18 (0 + (j - 0)) = _; rw [Nat.zero_add, Nat.sub_zero])
  have f4 : ∀ j, j < 9 → τ9 24 j = σ 19 j := fun j hj => by
    rw [hτ9, sf_upc_ne _ _ (by decide), sf_upc_eq]
    exact (pk_cpy_in (Nat.zero_le _) (by show j < 0 + 9; omega)).trans (by show σ 19 (0 + (j - 0)) = _; rw [Nat.zero_add, Nat.sub_zero])
  have f5 : ∀ j, j < 9 → τ9 25 j = σ 20 j := fun j hj => by
    rw [hτ9, sf_upc_eq]
    exact (pk_cpy_in (Nat.zero_le _) (by show j < 0 + 9; omega)).trans (by show σ 20 (0 + (j - 0)) = _; rw [Nat.zero_add, Nat.sub_zero])
  have hc9 : cD d τ9 := cD_fr hc (fun c h1 h2 => f2 c (by omega) (by omega) (by omega))
  obtain ⟨τ11, g1, g2, g3, g4⟩ := sp_tS h hc9 hw (fun j hj => by rw [f3 j (by omega)]; exact hS.1 j hj) (fun j hj => by rw [f4 j (by omega)]; exact (hS.2.1 j hj).1)
  have hc11 : cD d τ11 := cD_fr hc9 (fun c h1 h2 => g2 c (by omega) (by omega))
  have hW : cW d 23 24 25 (tA d (pd_tm d w)) (tB d (pd_tm d w)) τ11 := by
    refine ⟨hc11, ?_, fun a ha => ⟨g3 a ha, p3_tA d _ a⟩, fun k hk => ⟨g4 k hk, p3_tB d _ k, ?_⟩⟩
    · unfold cHd
      rw [g2 35 (by decide) (by decide), f2 35 (by decide) (by decide) (by decide)]
      exact hS.2.2.2.2.1
    · rw [g2 25 (by decide) (by decide), f5 k (by omega)]; exact (hS.2.1 k hk).2
  obtain ⟨τ13, i1, i2, i3⟩ := sp_leastSenses (sr := 26) h (zz 23 (by decide) (by decide)) (zz 24 (by decide) (by decide)) (zz 25 (by decide) (by decide)) (p3_tA d (pd_tm d w)) (p3_tB d (pd_tm d w)) hW (R := (pd_K d).1) [] (pd_K1_len h) (pd_K1_le h) (fun i hi => by
      rw [g2 28 (by decide) (by decide), f2 28 (by decide) (by decide) (by decide)]; exact (hS.2.2.2.1 i hi).2)
  rw [pd_second h (p3_tA d (pd_tm d w)) (p3_tB d (pd_tm d w)) (fun a ha hal => by
    unfold tA
    rw [pd_cs_al h ha hal]
    split <;> rfl)] at i1 i3
  refine ⟨τ9, τ11, τ13, f1, g1, i1, fun c q1 q2 q3 q4 q5 q6 q7 q8 q9 => ?_, i3.1, fun k hk => ?_⟩
  · rw [i2.1 c q4 q5 q6 q7 q8 q9, g2 c q1 q2, f2 c q1 q2 q3]
  · rw [cf_at i2 (zz 20 (by decide) (by decide)), g2 20 (by decide) (by decide), f2 20 (by decide) (by decide) (by decide), cf_at i2 (zz 25 (by decide) (by decide)), g2 25 (by decide) (by decide), f5 k hk]
    exact ⟨(hB k hk).1, (hB k hk).1⟩
end ISO2
