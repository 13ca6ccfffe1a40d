/-! the reference: its text; the call write -/
section WR3
variable {d : pd_D} {π : List Nat}
theorem sp_mW_3 (h : pd_W d) (hp : pN d π) (u0 u1 u2 u4 : Int32) {i : Nat} (hi : i < pd_n d) {P : List Nat} (hP : P.length ≤ 5 * i + 5 * (bl_H d π i).length + 4) : ∀ m j (σ : sf_St), j + m = i → mD d σ → mN d π σ → mTx (P ++ tx_J d π i j) σ →
    ∃ υ, mTx (P ++ tx_J d π i i ++ [59]) υ ∧ mwf σ υ ∧ ∀ r τ, Rn_R_X7_write 2 υ u0 u1 u2 (nI (i + 1)) 0 0 r τ → Rn_R_X7_write 3 σ u0 u1 u2 (nI i) u4 (nI j) r τ := by
  have h7 := h.1.1
  have h9 := h.1.2
  intro m
  induction m with
  | zero =>
    intro j σ hj hm hN hT
    have hj' : j = i := by omega
    subst hj'
    have hb := bl_len hp (i := j) (j := j) (by omega) (Nat.le_refl _) (Or.inl hi)
    have hJ := tx_J_len (d := d) (π := π) j j
    obtain ⟨υ, v1, v2, v3⟩ := sp_put hT (by rw [List.length_append]; omega) 59
    refine ⟨υ, v2, v3, fun r τ hx => ?_⟩
    apply ru_R_X7_write_3
    unfold tr_R_X7_write_3
    rw [if_pos (nI_le (by omega) (by omega))]
    refine ⟨υ, v1, ?_⟩
    intro y hy
    rw [sp_inc] at hy
    subst hy
    exact hx
  | succ m ih =>
    intro j σ hj hm hN hT
    have g1 := pN_getD hp hi
    have g2 := pN_getD hp (show j < pd_n d by omega)
    have hbo := sp_mBondOf h hm (a := π.getD i 0) (b := π.getD j 0) (by omega) (by omega)
    cases hb : pd_bo d (π.getD i 0) (π.getD j 0) with
    | none =>
      have e1 : pd_bi d (π.getD i 0) (π.getD j 0) = -1 := by unfold pd_bi; rw [hb]
      have e2 : tx_J d π i (j + 1) = tx_J d π i j := by
        show tx_J d π i j ++ tx_1 d π i j = _
        have : tx_1 d π i j = [] := by unfold tx_1; rw [hb]
        rw [this, List.append_nil]
      obtain ⟨υ, v1, v2, v3⟩ := ih (j + 1) σ (by omega) hm hN (by rw [e2]; exact hT)
      refine ⟨υ, v1, v2, fun r τ hx => ?_⟩
      apply ru_R_X7_write_3
      unfold tr_R_X7_write_3
      rw [if_neg (nI_ge (by omega) (by omega)), sp_ix (by omega), sp_ix (by omega), (hN i hi).1, (hN j (by omega)).1]
      refine ⟨sp_in (by omega) (by decide), sp_in (by omega) (by decide), _, σ, hbo, ?_⟩
      rw [e1, if_pos (by decide)]
      intro y hy
      rw [sp_inc] at hy
      subst hy
      exact v3 r τ hx
    | some k =>
      have e1 : pd_bi d (π.getD i 0) (π.getD j 0) = nI k := by unfold pd_bi; rw [hb]
      have hk := (pd_bo_some hb).1
      have e2 : tx_J d π i (j + 1) = tx_J d π i j ++ tx_b j (pd_o d k) (pd_tb d π k) := by
        show tx_J d π i j ++ tx_1 d π i j = _
        have : tx_1 d π i j = tx_b j (pd_o d k) (pd_tb d π k) := by unfold tx_1; rw [hb]
        rw [this]
      have hbl := bl_len hp (i := i) (j := j) (by omega) (by omega) (Or.inl hi)
      have hJ := tx_J_len (d := d) (π := π) i j
      obtain ⟨σ1, s1, s2, s3⟩ := sp_putBond h hp hm hN hT (by rw [List.length_append]; omega) (j := j) hk
      obtain ⟨υ, v1, v2, v3⟩ := ih (j + 1) σ1 (by omega) (mD_w hm s3) (mN_w hN s3) (by rw [e2, ← List.append_assoc]; exact s2)
      refine ⟨υ, v1, mwf_t s3 v2, fun r τ hx => ?_⟩
      apply ru_R_X7_write_3
      unfold tr_R_X7_write_3
      rw [if_neg (nI_ge (by omega) (by omega)), sp_ix (by omega), sp_ix (by omega), (hN i hi).1, (hN j (by omega)).1]
      refine ⟨sp_in (by omega) (by decide), sp_in (by omega) (by decide), _, σ, hbo, ?_⟩
      rw [e1, if_neg (nI_pos (by omega))]
      refine ⟨σ1, s1, ?_⟩
      intro y hy
      rw [sp_inc] at hy
      subst hy
      exact v3 r τ hx
theorem sp_mW_2 (h : pd_W d) (hp : pN d π) (u0 u1 u2 : Int32) : ∀ m i (σ : sf_St), i + m = pd_n d → mD d σ → mN d π σ → mTx (tx_H d π i) σ →
    ∃ τ, Rn_R_X7_write 2 σ u0 u1 u2 (nI i) 0 0 (nI (tx_H d π (pd_n d)).length) τ ∧ mTx (tx_H d π (pd_n d)) τ ∧ mwf σ τ := by
  have h7 := h.1.1
  have h9 := h.1.2
  intro m
  induction m with
  | zero =>
    intro i σ hi hm hN hT
    have hi' : i = pd_n d := by omega
    subst hi'
    refine ⟨σ, ?_, hT, mwf_r σ⟩
    apply ru_R_X7_write_2
    unfold tr_R_X7_write_2
    rw [hm.1.1, if_pos (nI_le (by omega) (by omega))]
    exact ⟨hT.1.symm, rfl⟩
  | succ m ih =>
    intro i σ hi hm hN hT
    have hin : i < pd_n d := by omega
    have g1 := pN_getD hp hin
    have hH := tx_H_len (d := d) (π := π) i
    have hbl := bl_len hp (i := i) (j := 0) (by omega) (by omega) (Or.inr rfl)
    have z0 : (bl_J d π i 0).length = 0 := rfl
    have le := tx_e_len (pd_e d (π.getD i 0))
    have ls := tx_s_len (pd_ta d π (π.getD i 0))
    obtain ⟨τ1, a1, a2, a3⟩ := sp_putElement hT (by omega) (h.2.1 _ g1).1
    have hm1 := mD_w hm a3
    have hN1 := mN_w hN a3
    obtain ⟨τ2, b1, b2⟩ := sp_mCentreSense h hm1 hp hN1 g1
    rw [pd_cs_pi hp] at b1
    have b1' : R_X7_centreSense τ1 (nI (π.getD i 0)) (iI (pd_ta d π (π.getD i 0))) τ2 := b1
    have b3 : mwf τ1 τ2 := ⟨fun x _ _ q => b2 x q, fun j _ => by rw [b2 0 (by decide)]⟩
    have hm2 := mD_w hm1 b3
    have hN2 := mN_w hN1 b3
    have hT2 : mTx (tx_H d π i ++ tx_e (pd_e d (π.getD i 0))) τ2 := by
      unfold mTx
      rw [b2 0 (by decide), b2 13 (by decide)]
      exact a2
    have w2 := mwf_t a3 b3
    -- the rest, from the state behind the sense
    have rest : ∀ σ3, mwf τ2 σ3 → mTx (tx_H d π i ++ tx_e (pd_e d (π.getD i 0)) ++ tx_s (pd_ta d π (π.getD i 0))) σ3 → ∃ τ, Rn_R_X7_write 3 σ3 u0 u1 u2 (nI i) (iI (pd_ta d π (π.getD i 0))) 0 (nI (tx_H d π (pd_n d)).length) τ ∧ mTx (tx_H d π (pd_n d)) τ ∧ mwf σ τ := by
      intro σ3 w3 hT3
      obtain ⟨υ, v1, v2, v3⟩ := sp_mW_3 h hp u0 u1 u2 (iI (pd_ta d π (π.getD i 0))) hin (P := tx_H d π i ++ tx_e (pd_e d (π.getD i 0)) ++ tx_s (pd_ta d π (π.getD i 0))) (by rw [List.length_append, List.length_append]; omega) i 0 σ3 (by omega) (mD_w hm2 w3) (mN_w hN2 w3) (by
        have e : ∀ P : List Nat, P ++ tx_J d π i 0 = P := fun P => List.append_nil _
        rw [e]; exact hT3)
      obtain ⟨τ, t1, t2, t3⟩ := ih (i + 1) υ (by omega) (mD_w (mD_w hm2 w3) v2) (mN_w (mN_w hN2 w3) v2) v1
      exact ⟨τ, v3 _ τ t1, t2, mwf_t w2 (mwf_t w3 (mwf_t v2 t3))⟩
    have go : ∀ r τ, (if iI (pd_ta d π (π.getD i 0)) = (0 : Int32) then (if iI (pd_ta d π (π.getD i 0)) ≤ (0 : Int32) then (Rn_R_X7_write 3 τ2 u0 u1 u2 (nI i) (iI (pd_ta d π (π.getD i 0))) (0 : Int32) r τ) else (∃ τ28 : sf_St, R_X7_put τ2 (64 : Int32) τ28 ∧ (Rn_R_X7_write 3 τ28 u0 u1 u2 (nI i) (iI (pd_ta d π (π.getD i 0))) (0 : Int32) r τ))) else (∃ τ30 : sf_St, R_X7_put τ2 (64 : Int32) τ30 ∧ (if iI (pd_ta d π (π.getD i 0)) ≤ (0 : Int32) then (Rn_R_X7_write 3 τ30 u0 u1 u2 (nI i) (iI (pd_ta d π (π.getD i 0))) (0 : Int32) r τ) else (∃ τ33 : sf_St, R_X7_put τ30 (64 : Int32) τ33 ∧ (Rn_R_X7_write 3 τ33 u0 u1 u2 (nI i) (iI (pd_ta d π (π.getD i 0))) (0 : Int32) r τ))))) → Rn_R_X7_write 2 σ u0 u1 u2 (nI i) 0 0 r τ := by
      intro r τ hx
      apply ru_R_X7_write_2
      unfold tr_R_X7_write_2
      have e8 : τ1 8 i = nI (π.getD i 0) := (hN1 i hin).1
      rw [hm.1.1, if_neg (nI_ge (by omega) (by omega)), sp_ix (by omega), (hN i hin).1, sp_ix (by omega), (hm.2.1 _ g1).1]
      refine ⟨sp_in (by omega) (by decide), sp_in (by omega) (by decide), τ1, a1, sp_in (by omega) (by decide), ?_⟩
      rw [e8]
      exact ⟨_, τ2, b1', hx⟩
    have h3 := p3_ta (d := d) (π := π) (π.getD i 0)
    have lh : (tx_H d π i ++ tx_e (pd_e d (π.getD i 0))).length = (tx_H d π i).length + (tx_e (pd_e d (π.getD i 0))).length := List.length_append
    generalize pd_ta d π (π.getD i 0) = s at *
    obtain ⟨τ3, c1, c2, c3⟩ := sp_put hT2 (by omega) 64
    obtain ⟨τ4, d1, d2, d3⟩ := sp_put c2 (by rw [List.length_append, List.length_singleton]; omega) 64
    rcases h3 with rfl | rfl | rfl
    · obtain ⟨τ, t1, t2⟩ := rest τ3 c3 c2
      refine ⟨τ, go _ τ ?_, t2⟩
      rw [if_neg (by decide)]
      refine ⟨τ3, c1, ?_⟩
      rw [if_pos (by decide)]
      exact t1
    · obtain ⟨τ, t1, t2⟩ := rest τ2 (mwf_r τ2) (by
        have e : ∀ P : List Nat, P ++ tx_s 0 = P := fun P => List.append_nil _
        rw [e]; exact hT2)
      refine ⟨τ, go _ τ ?_, t2⟩
      rw [if_pos (by decide), if_pos (by decide)]
      exact t1
    · obtain ⟨τ, t1, t2⟩ := rest τ4 (mwf_t c3 d3) (by
        have e : ∀ P : List Nat, P ++ tx_s 1 = P ++ [64] ++ [64] := fun P => by rw [List.append_assoc]; rfl
        rw [e]; exact d2)
      refine ⟨τ, go _ τ ?_, t2⟩
      rw [if_neg (by decide)]
      refine ⟨τ3, c1, ?_⟩
      rw [if_neg (by decide)]
      exact ⟨τ4, d1, t1⟩
/-- the first of the kept numberings whose senses are least -/
theorem pm_mf_at (f : List Nat → Nat) : ∀ (l : List (List Nat)) (S : Nat × List Nat), pm_mf f l S = S ∨ ∃ k0, k0 < l.length ∧ l.getD k0 [] = (pm_mf f l S).2 ∧ f (pm_mf f l S).2 = (pm_mf f l S).1 ∧ (pm_mf f l S).1 < S.1 ∧ ∀ k, k < k0 → (pm_mf f l S).1 < f (l.getD k []) := by
  intro l
  induction l with
  | nil => intro S; exact Or.inl rfl
  | cons p l ih =>
    intro S
    have e : pm_mf f (p :: l) S = pm_mf f l (if f p < S.1 then (f p, p) else S) := rfl
    rw [e]
    rcases ih (if f p < S.1 then (f p, p) else S) with q | ⟨k0, q1, q2, q3, q4, q5⟩
    · rw [q]
      by_cases hc : f p < S.1
      · rw [if_pos hc]
        exact Or.inr ⟨0, Nat.zero_lt_succ _, rfl, rfl, hc, fun k hk => absurd hk (Nat.not_lt_zero _)⟩
      · rw [if_neg hc]; exact Or.inl rfl
    · refine Or.inr ⟨k0 + 1, Nat.succ_lt_succ q1, q2, q3, ?_, fun k hk => ?_⟩
      · by_cases hc : f p < S.1
        · have z : (if f p < S.1 then (f p, p) else S) = (f p, p) := if_pos hc
          have q4' : (pm_mf f l (if f p < S.1 then (f p, p) else S)).1 < f p := by
            have := q4
            rw [z] at this ⊢
            exact this
          omega
        · have z : (if f p < S.1 then (f p, p) else S) = S := if_neg hc
          have := q4
          rw [z] at this ⊢
          exact this
      · cases k with
        | zero =>
          show _ < f p
          by_cases hc : f p < S.1
          · have z : (if f p < S.1 then (f p, p) else S) = (f p, p) := if_pos hc
            have := q4
            rw [z] at this ⊢
            exact this
          · have z : (if f p < S.1 then (f p, p) else S) = S := if_neg hc
            have := q4
            rw [z] at this ⊢
            omega
        | succ k => exact q5 k (by omega)
theorem sp_mW_1 (h : pd_W d) (hn : pd_n d ≠ 0) {k0 : Nat} (hk0 : k0 < (pd_K d).2.length) (he : pd_code d (pd_cs d) (pd_hs d) ((pd_K d).2.getD k0 []) = (pd_mf d (pd_cs d) (pd_hs d)).1) (hne : ∀ k, k < k0 → (pd_mf d (pd_cs d) (pd_hs d)).1 < pd_code d (pd_cs d) (pd_hs d) ((pd_K d).2.getD k [])) : ∀ m k (σ : sf_St), k + m = k0 → mD d σ → mS d σ →
    ∃ υ, mN d ((pd_K d).2.getD k0 []) υ ∧ (∀ c, c ≠ 8 → c ≠ 9 → c ≠ 14 → υ c = σ c) ∧ ∀ r τ, Rn_R_X7_write 2 υ (nI (pd_mf d (pd_cs d) (pd_hs d)).1) (nI (k0 + 1)) 1 0 0 0 r τ → Rn_R_X7_write 1 σ (nI (pd_mf d (pd_cs d) (pd_hs d)).1) (nI k) 0 0 0 0 r τ := by
  have h5 := pd_K_len h (by omega)
  have hmf := pd_mf_lt h (p3_cs d) (p3_hs d)
  have n01 : ¬ ((1 : Int32) = 0) := by decide
  -- one numbering
  have step : ∀ k (σ : sf_St), k ≤ k0 → mD d σ → mS d σ → ∃ τ9 τ11, R_X7_unpack σ (σ 11 (sf_ix (nI k))) τ9 ∧ R_X7_sensesNow τ9 0 (nI (pd_code d (pd_cs d) (pd_hs d) ((pd_K d).2.getD k []))) τ11 ∧ (∀ c, c ≠ 8 → c ≠ 9 → c ≠ 14 → τ11 c = σ c) ∧ mN d ((pd_K d).2.getD k []) τ11 := by
    intro k σ hk hm hS
    have hpN : pN d ((pd_K d).2.getD k []) := pd_K_pN (ls_getD_mem (by omega))
    obtain ⟨σ1, s1, s2, s3⟩ := sp_unpack h hm hpN
    have hm1 : mD d σ1 := mD_fr hm (by rw [s2 0 (by decide) (by decide)]; exact ⟨rfl, rfl⟩) (fun c _ h => s2 c (by omega) (by omega))
    obtain ⟨σ2, v1, v2⟩ := sp_mNow h hm1 hpN s3 (t := 0) (by decide)
    rw [pd_code_congr (A' := pd_cs d) (B' := pd_hs d) (fun a _ => tA_0 a) (fun k _ => tB_0 k) hpN] at v1
    refine ⟨σ1, σ2, ?_, v1, fun c a1 a2 a3 => (v2 c a3).trans (s2 c a1 a2), mN_fr s3 (v2 8 (by decide)) (v2 9 (by decide))⟩
    rw [sp_ix (by omega), hS.2.2 k hn (by omega)]
    exact s1
  intro m
  induction m with
  | zero =>
    intro k σ hk hm hS
    have hk' : k = k0 := by omega
    subst hk'
    obtain ⟨τ9, τ11, a1, a2, a3, a4⟩ := step k σ (Nat.le_refl _) hm hS
    refine ⟨τ11, a4, a3, fun r τ hx => ?_⟩
    apply ru_R_X7_write_1
    unfold tr_R_X7_write_1
    rw [if_pos rfl]
    refine ⟨sp_in (by omega) (by decide), τ9, a1, _, τ11, a2, ?_⟩
    rw [he, if_pos rfl]
    intro y hy
    rw [sp_inc] at hy
    subst hy
    apply ru_R_X7_write_1
    unfold tr_R_X7_write_1
    rw [if_neg n01]
    exact hx
  | succ m ih =>
    intro k σ hk hm hS
    obtain ⟨τ9, τ11, a1, a2, a3, a4⟩ := step k σ (by omega) hm hS
    have hpN : pN d ((pd_K d).2.getD k []) := pd_K_pN (ls_getD_mem (by omega))
    have hcl := pd_code_lt h hpN (p3_cs d) (p3_hs d)
    have hlt := hne k (by omega)
    have hm2 : mD d τ11 := mD_fr hm (by rw [a3 0 (by decide) (by decide) (by decide)]; exact ⟨rfl, rfl⟩) (fun c _ h => a3 c (by omega) (by omega) (by omega))
    have hS2 : mS d τ11 := by
      unfold mS
      rw [a3 0 (by decide) (by decide) (by decide), a3 10 (by decide) (by decide) (by decide), a3 11 (by decide) (by decide) (by decide)]
      exact hS
    obtain ⟨υ, v1, v2, v3⟩ := ih (k + 1) τ11 (by omega) hm2 hS2
    refine ⟨υ, v1, fun c b1 b2 b3 => (v2 c b1 b2 b3).trans (a3 c b1 b2 b3), fun r τ hx => ?_⟩
    apply ru_R_X7_write_1
    unfold tr_R_X7_write_1
    rw [if_pos rfl]
    refine ⟨sp_in (by omega) (by decide), τ9, a1, _, τ11, a2, ?_⟩
    rw [if_neg (fun w => by
      have := (nI_eq (by omega) (by omega)).mp w
      omega)]
    intro y hy
    rw [sp_inc] at hy
    subst hy
    exact v3 r τ hx
theorem op_write (σ σ' : sf_St) (h : Inv σ σ') : ∃ (r : Int32) (τ τ' : sf_St), R_X6_write σ r τ ∧ R_X7_write σ' r τ' ∧ Inv τ τ' := by
  obtain ⟨d, hw, hc, hm, hC, hM, hK, hT, hB⟩ := h
  have h7 := hw.1.1
  have h9 := hw.1.2
  obtain ⟨τ, t1, t2, t3, t4, t5⟩ := sp_settle hw hc hC hB
  have hcτ : cD d τ := cD_fr hc (fun c h1 h2 => t2 c (by omega))
  obtain ⟨π, hπ⟩ : ∃ π, π = (pd_mf d (pd_cs d) (pd_hs d)).2 := ⟨_, rfl⟩
  have hp : pN d π := by rw [hπ]; exact pd_mf_pN hw (p3_cs d) (p3_hs d)
  -- the class
  have hnum := t4.2.2.2.2.2
  rw [← hπ] at hnum
  have hW : cWr d π (sf_up τ 43 1 0) := by
    have ne : ∀ c, c ≠ 43 → sf_up τ 43 1 0 c = τ c := fun c q => sf_up_ne _ _ _ q
    refine ⟨cD_fr hcτ (fun c h1 h2 => ne c (by omega)), ?_, ?_, ?_, ?_⟩
    · rw [ne 41 (by decide)]; exact fun i hi => (hnum i hi).1
    · unfold cNn
      rw [ne 42 (by decide)]
      intro b hb
      have hlt := pd_num_lt hp hb
      have hi := (hnum (pd_num π b) hlt).2
      have e : π.getD (pd_num π b) 0 = b := by
        have h1 := List.idxOf_lt_length_of_mem (pN_mem hp hb)
        have e1 := List.getElem_idxOf h1
        unfold pd_num
        rw [List.getD_eq_getElem?_getD, List.getElem?_eq_getElem h1, e1]; rfl
      rw [e] at hi
      exact ⟨hi, by omega⟩
    · rw [ne 18 (by decide)]; exact t4.1
    · rw [ne 19 (by decide)]; exact fun k hk => (t4.2.1 k hk).1
  obtain ⟨υ, v1, v2, v3⟩ := sp_W_1 hw hp (pd_n d) 0 (sf_up τ 43 1 0) (by omega) hW ⟨by rw [sf_up_at, if_pos rfl, if_pos rfl]; rfl, fun i hi => absurd hi (Nat.not_lt_zero _)⟩
  have hdes : R_X5_describe τ υ := by
    unfold R_X5_describe
    apply ru_R_X5_describe_0
    unfold tr_R_X5_describe_0
    intro s hs
    subst hs
    exact v1
  have fr : ∀ c, c ≠ 43 → c ≠ 44 → υ c = τ c := fun c q1 q2 => (v3 c q1 q2).trans (sf_up_ne _ _ _ q1)
  -- the reference
  have hm0 : mD d (sf_up σ' 0 19 0) := mD_fr hm ⟨by rw [sf_up_at, if_pos rfl, if_neg (by decide)], by rw [sf_up_at, if_pos rfl, if_neg (by decide)]⟩ (fun c h1 h2 => sf_up_ne _ _ _ (by omega))
  have hM0 : iv_M d (sf_up σ' 0 19 0) := by
    unfold iv_M mS
    rw [sf_up_ne _ _ _ (by decide : (10 : Nat) ≠ 0), sf_up_ne _ _ _ (by decide : (11 : Nat) ≠ 0), sf_up_at, sf_up_at, if_pos rfl, if_pos rfl, if_neg (by decide), if_neg (by decide)]
    exact hM
  obtain ⟨τ1, r1, r2, r3, r4, r5⟩ := sp_mL0 hw hm0 hM0
  have r19 : τ1 0 19 = 0 := by rw [r2.2 19 (by decide) (by decide), sf_up_at, if_pos rfl, if_pos rfl]
  have hfind : ∃ ρ u1, mN d π ρ ∧ (∀ c, c ≠ 8 → c ≠ 9 → c ≠ 14 → ρ c = τ1 c) ∧ ∀ r τ', Rn_R_X7_write 2 ρ (nI (pd_mf d (pd_cs d) (pd_hs d)).1) u1 1 0 0 0 r τ' → R_X7_write σ' r τ' := by
    by_cases hn : pd_n d = 0
    · refine ⟨τ1, 0, fun i hi => by omega, fun _ _ _ _ => rfl, fun r τ' hx => ?_⟩
      unfold R_X7_write
      apply ru_R_X7_write_0
      unfold tr_R_X7_write_0
      intro s hs
      subst hs
      refine ⟨_, τ1, r1, ?_⟩
      rw [r3.1.1, hn, if_pos (by decide)]
      apply ru_R_X7_write_1
      unfold tr_R_X7_write_1
      rw [if_neg (by decide)]
      exact hx
    · have hmf := pd_mf_lt hw (p3_cs d) (p3_hs d)
      rcases pm_mf_at (pd_code d (pd_cs d) (pd_hs d)) (pd_K d).2 (pm_OP, []) with q | ⟨k0, q1, q2, q3, q4, q5⟩
      · exfalso
        have e : pd_mf d (pd_cs d) (pd_hs d) = (pm_OP, []) := q
        rw [e] at hmf
        exact absurd hmf (by decide)
      · have q2' : (pd_K d).2.getD k0 [] = π := by rw [hπ]; exact q2
        have q3' : pd_code d (pd_cs d) (pd_hs d) ((pd_K d).2.getD k0 []) = (pd_mf d (pd_cs d) (pd_hs d)).1 := by rw [q2]; exact q3
        obtain ⟨ρ, p1, p2, p3'⟩ := sp_mW_1 hw hn q1 q3' q5 k0 0 τ1 (by omega) r3 r5
        rw [q2'] at p1
        refine ⟨ρ, nI (k0 + 1), p1, p2, fun r τ' hx => ?_⟩
        unfold R_X7_write
        apply ru_R_X7_write_0
        unfold tr_R_X7_write_0
        intro s hs
        subst hs
        refine ⟨_, τ1, r1, ?_⟩
        rw [r3.1.1, if_neg (nI_ne0 (by omega) (by omega))]
        exact p3' r τ' hx
  obtain ⟨ρ, u1, p1, p2, p3'⟩ := hfind
  have hmρ : mD d ρ := mD_fr r3 (by rw [p2 0 (by decide) (by decide) (by decide)]; exact ⟨rfl, rfl⟩) (fun c _ h => p2 c (by omega) (by omega) (by omega))
  obtain ⟨τ', w1, w2, w3⟩ := sp_mW_2 hw hp (nI (pd_mf d (pd_cs d) (pd_hs d)).1) u1 1 (pd_n d) 0 ρ (by omega) hmρ p1 ⟨by rw [p2 0 (by decide) (by decide) (by decide)]; exact r19, fun i hi => absurd hi (Nat.not_lt_zero _)⟩
  have hlen : (tx_H d π (pd_n d)).length ≤ 80 := by
    have a1 := tx_H_len (d := d) (π := π) (pd_n d)
    have a2 := bl_len hp (i := pd_n d) (j := 0) (Nat.le_refl _) (by omega) (Or.inr rfl)
    omega
  refine ⟨nI (tx_H d π (pd_n d)).length, υ, τ', ⟨τ, t1, υ, hdes, v2.1.symm, rfl⟩, p3' _ τ' w1, ?_⟩
  refine ⟨d, hw, cD_fr hcτ (fun c h1 h2 => fr c (by omega) (by omega)), mD_w hmρ w3, Or.inr ⟨?_, ?_⟩, Or.inr ⟨?_, ?_⟩, ?_, ⟨(tx_H d π (pd_n d)).length, hlen, v2.1, w2.1, fun i hi => ?_⟩, ?_⟩
  · rw [fr 0 (by decide) (by decide)]; exact t3
  · unfold cS
    rw [fr 0 (by decide) (by decide), fr 18 (by decide) (by decide), fr 19 (by decide) (by decide), fr 20 (by decide) (by decide), fr 36 (by decide) (by decide), fr 37 (by decide) (by decide), fr 28 (by decide) (by decide), fr 35 (by decide) (by decide), fr 41 (by decide) (by decide), fr 42 (by decide) (by decide)]
    exact t4
  · rw [w3.2 11 (by decide), p2 0 (by decide) (by decide) (by decide)]; exact r4
  · unfold mS
    rw [w3.2 13 (by decide), w3.1 10 (by decide) (by decide) (by decide), w3.1 11 (by decide) (by decide) (by decide), p2 0 (by decide) (by decide) (by decide), p2 10 (by decide) (by decide) (by decide), p2 11 (by decide) (by decide) (by decide)]
    exact r5
  · have z : ∀ j, j ≠ 11 → j ≠ 13 → j ≠ 19 → τ' 0 j = σ' 0 j := fun j j1 j2 j3 => by
      rw [w3.2 j j3, p2 0 (by decide) (by decide) (by decide), r2.2 j j1 j2, sf_up_at, if_pos rfl, if_neg j3]
    unfold iv_K
    rw [fr 38 (by decide) (by decide), fr 39 (by decide) (by decide), t2 38 (by decide), t2 39 (by decide), z 15 (by decide) (by decide) (by decide), z 16 (by decide) (by decide) (by decide), z 18 (by decide) (by decide) (by decide), w3.1 12 (by decide) (by decide) (by decide), p2 12 (by decide) (by decide) (by decide), r2.1 12 (by decide) (by decide) (by decide) (by decide) (by decide) (by decide), sf_up_ne _ _ _ (by decide : (12 : Nat) ≠ 0)]
    exact hK
  · rw [v2.2 i hi, w2.2 i hi]
  · unfold iv_B
    rw [fr 20 (by decide) (by decide), fr 25 (by decide) (by decide)]
    exact t5
end WR3
