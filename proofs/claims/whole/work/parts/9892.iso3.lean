/-! isomers -/
section ISO3
variable {d : pd_D}
def pd_V (d : pd_D) (w : Nat) : Nat := (pd_mf d (tA d (pd_tm d w)) (tB d (pd_tm d w))).1
theorem pd_V_lt (h : pd_W d) (w : Nat) : pd_V d w < 100000 := pd_mf_lt h (p3_tA d _) (p3_tB d _)
def fS (c : Nat) (F : List Nat) (σ : sf_St) : Prop := ∀ j, j < F.length → σ c j = nI (F.getD j 0) ∧ F.getD j 0 < 2 ^ 31
theorem ls_mem_getD {F : List Nat} {j : Nat} (h : j < F.length) : F.getD j 0 ∈ F := by
  have : F.getD j 0 = F[j] := by simp [List.getD_eq_getElem?_getD, List.getElem?_eq_getElem h]
  rw [this]
  exact List.getElem_mem _
theorem ls_getD_of_mem {F : List Nat} {v : Nat} (h : v ∈ F) : ∃ j, j < F.length ∧ F.getD j 0 = v := by
  obtain ⟨j, hj, e⟩ := List.getElem_of_mem h
  exact ⟨j, hj, by simp [List.getD_eq_getElem?_getD, List.getElem?_eq_getElem hj, e]⟩
theorem fS_ins {c : Nat} {F : List Nat} {σ : sf_St} (hF : fS c F σ) {v : Nat} (hv : v < 2 ^ 31) : fS c (F ++ [v]) (sf_up σ c F.length (nI v)) := by
  intro j hj
  rw [List.length_append, List.length_singleton] at hj
  rw [sf_up_at, if_pos rfl]
  by_cases q : j = F.length
  · subst q
    have e : (F ++ [v]).getD F.length 0 = v := by simp [List.getD_eq_getElem?_getD]
    rw [if_pos rfl, e]
    exact ⟨rfl, hv⟩
  · have e : (F ++ [v]).getD j 0 = F.getD j 0 := by simp [List.getD_eq_getElem?_getD, List.getElem?_append_left (show j < F.length by omega)]
    rw [if_neg q, e]
    exact hF j (by omega)
theorem fS_fr {c : Nat} {F : List Nat} {σ τ : sf_St} (hF : fS c F σ) (h : τ c = σ c) : fS c F τ := by
  unfold fS
  rw [h]
  exact hF
theorem sp_found_1 {σ : sf_St} {F : List Nat} (h16 : F.length ≤ 16) (hF : fS 45 F σ) {v : Nat} (hv : v < 2 ^ 31) : ∀ m k, k + m = F.length → (∀ j, j < k → F.getD j 0 ≠ v) → Rn_R_X6_isFound 1 σ (nI v) (nI F.length) (nI k) (if v ∈ F then 1 else 0) σ := by
  intro m
  induction m with
  | zero =>
    intro k hk hn
    have hno : ¬ v ∈ F := fun q => by
      obtain ⟨j, hj, e⟩ := ls_getD_of_mem q
      exact hn j (by omega) e
    apply ru_R_X6_isFound_1
    unfold tr_R_X6_isFound_1
    rw [if_pos (nI_le (by omega) (by omega)), if_neg hno]
    exact ⟨rfl, rfl⟩
  | succ m ih =>
    intro k hk hn
    have hk' : k < F.length := by omega
    obtain ⟨f1, f2⟩ := hF k hk'
    apply ru_R_X6_isFound_1
    unfold tr_R_X6_isFound_1
    rw [if_neg (nI_ge (by omega) (by omega)), sp_ix (by omega), f1]
    refine ⟨sp_in (by omega) (by decide), ?_⟩
    by_cases q : F.getD k 0 = v
    · rw [if_pos (by rw [q])]
      have : v ∈ F := q ▸ ls_mem_getD hk'
      rw [if_pos this]
      exact ⟨rfl, rfl⟩
    · rw [if_neg (fun w => q ((nI_eq f2 hv).mp w))]
      intro y hy
      rw [sp_inc] at hy
      subst hy
      refine ih (k + 1) (by omega) (fun j hj => ?_)
      by_cases q2 : j = k
      · rw [q2]; exact q
      · exact hn j (by omega)
theorem sp_found {σ : sf_St} {F : List Nat} (h16 : F.length ≤ 16) (hF : fS 45 F σ) {v : Nat} (hv : v < 2 ^ 31) : R_X6_isFound σ (nI v) (nI F.length) (if v ∈ F then 1 else 0) σ := by
  unfold R_X6_isFound
  apply ru_R_X6_isFound_0
  unfold tr_R_X6_isFound_0
  exact sp_found_1 h16 hF hv F.length 0 (by omega) (fun j hj => absurd hj (Nat.not_lt_zero _))
def io_f (σ τ : sf_St) : Prop := ∀ c, c ≠ 23 → c ≠ 24 → c ≠ 25 → c ≠ 27 → c ≠ 28 → c ≠ 30 → c ≠ 31 → c ≠ 33 → c ≠ 34 → c ≠ 45 → τ c = σ c
theorem cS_io {σ τ : sf_St} (hS : cS d σ) (hf : io_f σ τ) (h28 : ∀ i, i < pd_n d → τ 28 i = nI ((pd_K d).1.getD i 0)) : cS d τ := by
  have e : ∀ c, c = 0 ∨ c = 18 ∨ c = 19 ∨ c = 20 ∨ c = 35 ∨ c = 36 ∨ c = 37 ∨ c = 41 ∨ c = 42 → τ c = σ c := fun c hc => hf c (by omega) (by omega) (by omega) (by omega) (by omega) (by omega) (by omega) (by omega) (by omega) (by omega)
  obtain ⟨s1, s2, s3, s4, s5, s6⟩ := hS
  refine ⟨?_, ?_, ?_, fun i hi => ⟨?_, h28 i hi⟩, ?_, ?_⟩
  · rw [e 18 (by decide)]; exact s1
  · rw [e 19 (by decide), e 20 (by decide)]; exact s2
  · rw [e 36 (by decide), e 0 (by decide)]; exact s3
  · rw [e 37 (by decide)]; exact (s4 i hi).1
  · rw [e 35 (by decide)]; exact s5
  · rw [e 41 (by decide), e 42 (by decide)]; exact s6
theorem sp_iso_1 (h : pd_W d) (h4 : pd_c d ≤ 4) : ∀ m w (F : List Nat) (σ : sf_St), w + m = 2 ^ pd_c d → F.length ≤ w → fS 45 F σ → cD d σ → cS d σ → iv_B σ →
    ∃ τ, Rn_R_X6_isomers 1 σ (nI (pd_c d)) (nI F.length) (nI w) (nI (((List.range' w m).map (pd_V d)).foldl ins F).length) τ ∧ io_f σ τ ∧ cS d τ ∧ iv_B τ := by
  have h16 : 2 ^ pd_c d ≤ 16 := (Nat.pow_le_pow_right (by decide) h4 : 2 ^ pd_c d ≤ 2 ^ 4)
  have hsh : (1 : Int32) <<< (nI (pd_c d) &&& 31) = nI (2 ^ pd_c d) := by
    have := pk_shlN (n := 1) (nI (pd_c d) &&& 31) (pd_c d) (sn_sm _ (by omega)) (by omega)
    rw [Nat.one_mul] at this
    exact this
  intro m
  induction m with
  | zero =>
    intro w F σ hw hl hF hc hS hB
    refine ⟨σ, ?_, fun _ _ _ _ _ _ _ _ _ _ _ => rfl, hS, hB⟩
    apply ru_R_X6_isomers_1
    unfold tr_R_X6_isomers_1
    rw [hsh, if_pos (nI_le (by omega) (by omega))]
    exact ⟨rfl, rfl⟩
  | succ m ih =>
    intro w F σ hw hl hF hc hS hB
    obtain ⟨τ9, τ11, τ13, a1, a2, a3, a4, a5, a6⟩ := sp_way h hc hS hB (w := w) (by omega)
    have hf13 : io_f σ τ13 := fun c q1 q2 q3 q4 q5 q6 q7 q8 q9 _ => a4 c q1 q2 q3 q4 q5 q6 q7 q8 q9
    have hF13 : fS 45 F τ13 := fS_fr hF (a4 45 (by decide) (by decide) (by decide) (by decide) (by decide) (by decide) (by decide) (by decide) (by decide))
    have hc13 : cD d τ13 := cD_fr hc (fun c h1 h2 => a4 c (by omega) (by omega) (by omega) (by omega) (by omega) (by omega) (by omega) (by omega) (by omega))
    have hS13 : cS d τ13 := cS_io hS hf13 a5
    have hV := pd_V_lt h w
    have hfd := sp_found (σ := τ13) (F := F) (by omega) hF13 (v := pd_V d w) (by omega)
    have er : (List.range' w (m + 1)).map (pd_V d) = pd_V d w :: (List.range' (w + 1) m).map (pd_V d) := rfl
    rw [er, List.foldl_cons]
    have a3' : R_X3_leastSenses 23 24 25 26 τ11 (nI (pd_V d w)) τ13 := a3
    by_cases hin : pd_V d w ∈ F
    · rw [if_pos hin] at hfd
      have ei : ins F (pd_V d w) = F := if_pos hin
      rw [ei]
      obtain ⟨τ, t1, t2, t3, t4⟩ := ih (w + 1) F τ13 (by omega) (by omega) hF13 hc13 hS13 a6
      refine ⟨τ, ?_, fun c q1 q2 q3 q4 q5 q6 q7 q8 q9 q10 => (t2 c q1 q2 q3 q4 q5 q6 q7 q8 q9 q10).trans (hf13 c q1 q2 q3 q4 q5 q6 q7 q8 q9 q10), t3, t4⟩
      apply ru_R_X6_isomers_1
      unfold tr_R_X6_isomers_1
      rw [hsh, if_neg (nI_ge (by omega) (by omega))]
      refine ⟨τ9, a1, τ11, a2, _, τ13, a3', _, τ13, hfd, ?_⟩
      rw [if_neg (by decide)]
      intro y hy
      rw [sp_inc] at hy
      subst hy
      exact t1
    · rw [if_neg hin] at hfd
      have ei : ins F (pd_V d w) = F ++ [pd_V d w] := if_neg hin
      rw [ei]
      have hne : ∀ c, c ≠ 45 → sf_up τ13 45 F.length (nI (pd_V d w)) c = τ13 c := fun c q => sf_up_ne _ _ _ q
      have hfn : io_f τ13 (sf_up τ13 45 F.length (nI (pd_V d w))) := fun c _ _ _ _ _ _ _ _ _ q => hne c q
      obtain ⟨τ, t1, t2, t3, t4⟩ := ih (w + 1) (F ++ [pd_V d w]) (sf_up τ13 45 F.length (nI (pd_V d w))) (by omega) (by rw [List.length_append, List.length_singleton]; omega) (fS_ins hF13 (by omega)) (cD_fr hc13 (fun c h1 h2 => hne c (by omega))) (cS_io hS13 hfn (by rw [hne 28 (by decide)]; exact a5)) (by unfold iv_B; rw [hne 20 (by decide), hne 25 (by decide)]; exact a6)
      refine ⟨τ, ?_, fun c q1 q2 q3 q4 q5 q6 q7 q8 q9 q10 => ((t2 c q1 q2 q3 q4 q5 q6 q7 q8 q9 q10).trans (hne c q10)).trans (hf13 c q1 q2 q3 q4 q5 q6 q7 q8 q9 q10), t3, t4⟩
      apply ru_R_X6_isomers_1
      unfold tr_R_X6_isomers_1
      rw [hsh, if_neg (nI_ge (by omega) (by omega))]
      refine ⟨τ9, a1, τ11, a2, _, τ13, a3', _, τ13, hfd, ?_⟩
      rw [if_pos rfl, sp_ix (by omega)]
      refine ⟨sp_in (by omega) (by decide), ?_⟩
      intro s hs y hy z hz
      rw [sp_inc] at hy
      rw [sp_inc] at hz
      subst hs
      subst hy
      subst hz
      rw [List.length_append, List.length_singleton] at t1
      exact t1
/-- the reference -/
theorem nI_and (v w : Nat) : nI v &&& nI w = nI (v &&& w) := by
  apply Int32.toBitVec_inj.mp
  show BitVec.ofNat 32 v &&& BitVec.ofNat 32 w = BitVec.ofNat 32 (v &&& w)
  apply BitVec.eq_of_toNat_eq
  rw [BitVec.toNat_and, BitVec.toNat_ofNat, BitVec.toNat_ofNat, BitVec.toNat_ofNat, Nat.and_mod_two_pow]
theorem sp_or {x p : Nat} (h : x < 2 ^ p) (hp : p < 31) : nI x ||| ((1 : Int32) <<< (nI p &&& 31)) = nI (x + 2 ^ p) := by
  have hb : 2 ^ p ≤ 2 ^ 30 := Nat.pow_le_pow_right (by decide) (by omega)
  have := pk_shlN (n := 1) (nI p &&& 31) p (sn_sm _ (by omega)) (by omega)
  rw [Nat.one_mul] at this
  have e : (1 : Int32) <<< (nI p &&& 31) = nI (2 ^ p) := this
  rw [e, nI_or, nb_or h]
theorem sp_met_4 {σ : sf_St} {F : List Nat} (h16 : F.length ≤ 16) (hF : fS 15 F σ) {v : Nat} (hv : v < 2 ^ 31) (u0 u1 u3 u4 r : Int32) (τ : sf_St) (hx : Rn_R_X7_isomers 4 σ u0 u1 (nI F.length) u3 u4 (nI v) (if v ∈ F then 1 else 0) (nI F.length) r τ) : ∀ m k, k + m = F.length → Rn_R_X7_isomers 4 σ u0 u1 (nI F.length) u3 u4 (nI v) (if v ∈ F.take k then 1 else 0) (nI k) r τ := by
  have n01 : ¬ ((1 : Int32) = 0) := by decide
  intro m
  induction m with
  | zero =>
    intro k hk
    have hk' : k = F.length := by omega
    subst hk'
    rw [List.take_length]
    exact hx
  | succ m ih =>
    intro k hk
    have ih' := ih (k + 1) (by omega)
    have hk' : k < F.length := by omega
    obtain ⟨f1, f2⟩ := hF k hk'
    rw [pd_take_succ hk'] at ih'
    apply ru_R_X7_isomers_4
    unfold tr_R_X7_isomers_4
    rw [if_neg (nI_ge (by omega) (by omega))]
    by_cases q : v ∈ F.take k
    · rw [if_pos (List.mem_append.mpr (Or.inl q))] at ih'
      rw [if_pos q, if_neg n01]
      intro y hy
      rw [sp_inc] at hy
      subst hy
      exact ih'
    · rw [if_neg q, if_pos rfl, sp_ix (by omega), f1]
      refine ⟨sp_in (by omega) (by decide), ?_⟩
      by_cases q2 : F.getD k 0 = v
      · rw [if_pos (List.mem_append.mpr (Or.inr (by rw [q2]; exact List.mem_singleton.mpr rfl)))] at ih'
        rw [if_pos (by rw [q2])]
        intro y hy
        rw [sp_inc] at hy
        subst hy
        exact ih'
      · rw [if_neg (fun w => by
          rcases List.mem_append.mp w with w | w
          · exact q w
          · exact q2 (List.mem_singleton.mp w).symm)] at ih'
        rw [if_neg (fun w => q2 ((nI_eq f2 hv).mp w))]
        intro y hy
        rw [sp_inc] at hy
        subst hy
        exact ih'
def rs_i (σ τ : sf_St) : Prop := (∀ c, c ≠ 0 → c ≠ 8 → c ≠ 9 → c ≠ 10 → c ≠ 11 → c ≠ 14 → c ≠ 15 → τ c = σ c) ∧ ∀ j, j ≠ 11 → j ≠ 13 → τ 0 j = σ 0 j
theorem rs_it {σ τ υ : sf_St} (h1 : rs_i σ τ) (h2 : rs_i τ υ) : rs_i σ υ := ⟨fun c a1 a2 a3 a4 a5 a6 a7 => (h2.1 c a1 a2 a3 a4 a5 a6 a7).trans (h1.1 c a1 a2 a3 a4 a5 a6 a7), fun j j1 j2 => (h2.2 j j1 j2).trans (h1.2 j j1 j2)⟩
theorem rs_ih {σ τ : sf_St} (h : rs_h σ τ) : rs_i σ τ := ⟨fun c a1 a2 a3 a4 a5 a6 _ => h.1 c a1 a2 a3 a4 a5 a6, h.2⟩
theorem sp_mIso_3 (h : pd_W d) (h4 : pd_c d ≤ 4) (u0 : Int32) : ∀ w (F : List Nat) (σ : sf_St), F.length + w < 2 ^ pd_c d → fS 15 F σ → mD d σ → iv_M d σ →
    ∃ τ, Rn_R_X7_isomers 3 σ u0 (nI (dp_al (pd_u d) 16 0)) (nI F.length) (nI (pd_tm d w)) 1 0 0 0 (nI (((rl w).map (pd_V d)).foldl ins F).length) τ ∧ rs_i σ τ ∧ mD d τ ∧ τ 0 11 = 1 ∧ mS d τ := by
  have h16 : 2 ^ pd_c d ≤ 16 := (Nat.pow_le_pow_right (by decide) h4 : 2 ^ pd_c d ≤ 2 ^ 4)
  have n01 : ¬ ((1 : Int32) = 0) := by decide
  -- what is met, one more
  have step : ∀ w (F : List Nat) (σ : sf_St), F.length + w < 2 ^ pd_c d → fS 15 F σ → mD d σ → iv_M d σ → ∃ τ1, rs_i σ τ1 ∧ fS 15 (ins F (pd_V d w)) τ1 ∧ mD d τ1 ∧ τ1 0 11 = 1 ∧ mS d τ1 ∧ ∀ r τ, (nI (pd_tm d w) = (0 : Int32) → ∀ y, y = (nI (pd_tm d w) - 1) &&& nI (dp_al (pd_u d) 16 0) → Rn_R_X7_isomers 3 τ1 u0 (nI (dp_al (pd_u d) 16 0)) (nI (ins F (pd_V d w)).length) y 0 0 0 0 r τ) → (¬ nI (pd_tm d w) = (0 : Int32) → ∀ y, y = (nI (pd_tm d w) - 1) &&& nI (dp_al (pd_u d) 16 0) → Rn_R_X7_isomers 3 τ1 u0 (nI (dp_al (pd_u d) 16 0)) (nI (ins F (pd_V d w)).length) y 1 0 0 0 r τ) → Rn_R_X7_isomers 3 σ u0 (nI (dp_al (pd_u d) 16 0)) (nI F.length) (nI (pd_tm d w)) 1 0 0 0 r τ := by
    intro w F σ hl hF hm hM
    have hV := pd_V_lt h w
    obtain ⟨τ2, a1, a2, a3, a4, a5⟩ := sp_mL h (t := pd_tm d w) (dp_lt _ _ _ _) hm hM
    have hF2 : fS 15 F τ2 := fS_fr hF (a2.1 15 (by decide) (by decide) (by decide) (by decide) (by decide) (by decide))
    have a1' : R_X7_leastSenses σ (nI (pd_tm d w)) (nI (pd_V d w)) τ2 := a1
    have go : ∀ r τ, Rn_R_X7_isomers 4 τ2 u0 (nI (dp_al (pd_u d) 16 0)) (nI F.length) (nI (pd_tm d w)) 1 (nI (pd_V d w)) (if pd_V d w ∈ F then 1 else 0) (nI F.length) r τ → Rn_R_X7_isomers 3 σ u0 (nI (dp_al (pd_u d) 16 0)) (nI F.length) (nI (pd_tm d w)) 1 0 0 0 r τ := by
      intro r τ hx
      have := sp_met_4 (by omega) hF2 (show pd_V d w < 2 ^ 31 by omega) _ _ _ _ r τ hx F.length 0 (by omega)
      apply ru_R_X7_isomers_3
      unfold tr_R_X7_isomers_3
      rw [if_neg n01]
      refine ⟨_, τ2, a1', ?_⟩
      rw [List.take_zero, if_neg (by simp)] at this
      exact this
    by_cases hin : pd_V d w ∈ F
    · have ei : ins F (pd_V d w) = F := if_pos hin
      rw [ei]
      refine ⟨τ2, rs_ih a2, hF2, a3, a4, a5, fun r τ hx hx' => go r τ ?_⟩
      rw [if_pos hin]
      apply ru_R_X7_isomers_4
      unfold tr_R_X7_isomers_4
      rw [if_pos (nI_le (by omega) (by omega)), if_neg n01]
      by_cases q : nI (pd_tm d w) = (0 : Int32)
      · rw [if_pos q]; exact hx q
      · rw [if_neg q]; exact hx' q
    · have ei : ins F (pd_V d w) = F ++ [pd_V d w] := if_neg hin
      rw [ei]
      have hne : ∀ c, c ≠ 15 → sf_up τ2 15 F.length (nI (pd_V d w)) c = τ2 c := fun c q => sf_up_ne _ _ _ q
      refine ⟨sf_up τ2 15 F.length (nI (pd_V d w)), rs_it (rs_ih a2) ⟨fun c _ _ _ _ _ _ q => hne c q, fun j _ _ => by rw [hne 0 (by decide)]⟩, fS_ins hF2 (by omega), mD_fr a3 (by rw [hne 0 (by decide)]; exact ⟨rfl, rfl⟩) (fun c c1 c2 => hne c (by omega)), by rw [hne 0 (by decide)]; exact a4, ?_, fun r τ hx hx' => go r τ ?_⟩
      · unfold mS
        rw [hne 0 (by decide), hne 10 (by decide), hne 11 (by decide)]
        exact a5
      · rw [if_neg hin]
        apply ru_R_X7_isomers_4
        unfold tr_R_X7_isomers_4
        rw [if_pos (nI_le (by omega) (by omega)), if_pos rfl, sp_ix (by omega)]
        refine ⟨sp_in (by omega) (by decide), ?_⟩
        intro s hs y hy
        rw [sp_inc] at hy
        subst hs
        subst hy
        rw [List.length_append, List.length_singleton] at hx hx'
        by_cases q : nI (pd_tm d w) = (0 : Int32)
        · rw [if_pos q]; exact hx q
        · rw [if_neg q]; exact hx' q
  intro w
  induction w with
  | zero =>
    intro F σ hl hF hm hM
    obtain ⟨τ1, s1, s2, s3, s4, s5, s6⟩ := step 0 F σ hl hF hm hM
    have e0 : nI (pd_tm d 0) = 0 := by
      have : pd_tm d 0 = 0 := dp_0 _ _ _
      rw [this]; rfl
    refine ⟨τ1, s6 _ _ (fun _ y _ => ?_) (fun q => absurd e0 q), s1, s3, s4, s5⟩
    apply ru_R_X7_isomers_3
    unfold tr_R_X7_isomers_3
    rw [if_pos rfl]
    exact ⟨rfl, rfl⟩
  | succ w ih =>
    intro F σ hl hF hm hM
    obtain ⟨τ1, s1, s2, s3, s4, s5, s6⟩ := step (w + 1) F σ hl hF hm hM
    have hil := ins_len (F := F) (pd_V d (w + 1))
    obtain ⟨τ, t1, t2, t3, t4, t5⟩ := ih (ins F (pd_V d (w + 1))) τ1 (by omega) s2 s3 (Or.inr ⟨s4, s5⟩)
    have hp := dp_pos (pd_u d) 16 0 (w + 1) (by omega) (show w + 1 < 2 ^ pd_c d by omega)
    have hlt := dp_lt (pd_u d) 16 0 (w + 1)
    have hpr := dp_pred (pd_u d) 16 0 (w + 1) (by omega) (show w + 1 < 2 ^ pd_c d by omega)
    have hp' : 0 < pd_tm d (w + 1) := hp
    have hlt' : pd_tm d (w + 1) < 2 ^ 16 := hlt
    have hpr' : (pd_tm d (w + 1) - 1) &&& dp_al (pd_u d) 16 0 = pd_tm d w := hpr
    refine ⟨τ, s6 _ _ (fun q => absurd q (nI_ne0 hp' (by omega))) (fun _ y hy => ?_), rs_it s1 t2, t3, t4, t5⟩
    have e1 : nI (pd_tm d (w + 1)) - 1 = nI (pd_tm d (w + 1) - 1) := by
      have := nI_pred (pd_tm d (w + 1) - 1)
      rwa [Nat.sub_add_cancel hp'] at this
    rw [e1, nI_and, hpr'] at hy
    subst hy
    exact t1
theorem sp_mIso_2 (h : pd_W d) {σ : sf_St} (hm : mD d σ) (hN : mN d (List.range (pd_n d)) σ) {C AL : Nat} (hC : dp_cp (pd_u d) (7 + pd_b d) = C) (hAL : dp_ap (pd_u d) (7 + pd_b d) = AL) {r : Int32} {τ : sf_St} (hx : nI C ≤ (4 : Int32) → Rn_R_X7_isomers 3 σ (nI C) (nI AL) 0 (nI AL) 1 0 0 0 r τ) (hx' : ¬ nI C ≤ (4 : Int32) → (r = -1 ∧ τ = σ)) : ∀ m k, k + m = pd_b d → Rn_R_X7_isomers 2 σ (nI (dp_cp (pd_u d) (7 + k))) (nI (dp_ap (pd_u d) (7 + k))) (nI k) 0 0 0 0 0 r τ := by
  have h9 := h.1.2
  have n01 : ¬ ((1 : Int32) = 0) := by decide
  intro m
  induction m with
  | zero =>
    intro k hk
    have hk' : k = pd_b d := by omega
    subst hk'
    apply ru_R_X7_isomers_2
    unfold tr_R_X7_isomers_2
    rw [hm.1.2, if_pos (nI_le (by omega) (by omega)), hC, hAL]
    by_cases q : nI C ≤ (4 : Int32)
    · rw [if_pos q]; exact hx q
    · rw [if_neg q]; exact hx' q
  | succ m ih =>
    intro k hk
    have ih' := ih (k + 1) (by omega)
    have es : dp_cp (pd_u d) (7 + (k + 1)) = dp_cp (pd_u d) (7 + k) + if pd_u d (7 + k) = true then 1 else 0 := rfl
    have ea : dp_ap (pd_u d) (7 + (k + 1)) = dp_ap (pd_u d) (7 + k) + if pd_u d (7 + k) = true then 2 ^ (7 + k) else 0 := rfl
    rw [es, ea] at ih'
    have hu := pd_u_k (d := d) (k := k) (by omega)
    have hs := sp_mHingeSense h hm pN_own hN (show k < pd_b d by omega)
    rw [pd_hp_pi h pN_own (show k < pd_b d by omega)] at hs
    have o1 := pd_os_pm d (pd_num (List.range (pd_n d))) (pd_f d k) (pd_s d k)
    have o2 := pd_os_pm d (pd_num (List.range (pd_n d))) (pd_s d k) (pd_f d k)
    have p3' : p3 (pd_hs d k * pd_os d (pd_num (List.range (pd_n d))) (pd_f d k) (pd_s d k) * pd_os d (pd_num (List.range (pd_n d))) (pd_s d k) (pd_f d k)) := p3_mul (p3_mul (p3_hs d k) o1) o2
    have hz : pd_hs d k * pd_os d (pd_num (List.range (pd_n d))) (pd_f d k) (pd_s d k) * pd_os d (pd_num (List.range (pd_n d))) (pd_s d k) (pd_f d k) = 0 ↔ pd_hs d k = 0 := by
      rcases o1 with e1 | e1 <;> rcases o2 with e2 | e2 <;> rw [e1, e2] <;> omega
    apply ru_R_X7_isomers_2
    unfold tr_R_X7_isomers_2
    rw [hm.1.2, if_neg (nI_ge (by omega) (by omega))]
    refine ⟨_, σ, hs, ?_⟩
    by_cases q : pd_hs d k = 0
    · rw [if_neg (fun w => hu.mp w q), if_neg (fun w => hu.mp w q), Nat.add_zero, Nat.add_zero] at ih'
      rw [if_pos ((p3_0 p3').mpr (hz.mpr q)), if_pos rfl]
      intro y hy
      rw [if_pos rfl]
      intro z hz'
      rw [nI_a0] at hy
      rw [sp_inc] at hz'
      subst hy
      subst hz'
      exact ih'
    · rw [if_pos (hu.mpr q), if_pos (hu.mpr q)] at ih'
      rw [if_neg (fun w => q (hz.mp ((p3_0 p3').mp w))), if_neg n01]
      intro y hy
      rw [if_neg n01]
      intro x hx' z hz'
      have e7 : (7 : Int32) + nI k = nI (7 + k) := nI_add 7 k
      rw [e7, sp_or (dp_ap_lt _ _) (by omega)] at hx'
      rw [sp_inc] at hy
      rw [sp_inc] at hz'
      subst hy
      subst hz'
      subst hx'
      exact ih'
theorem sp_mIso_1 (h : pd_W d) : ∀ m k (σ : sf_St), k + m = pd_n d → mD d σ → mN d (List.range (pd_n d)) σ →
    ∃ σ1, (∀ c, c ≠ 14 → σ1 c = σ c) ∧ ∀ r τ, Rn_R_X7_isomers 2 σ1 (nI (dp_cp (pd_u d) (7 + 0))) (nI (dp_ap (pd_u d) (7 + 0))) (nI 0) 0 0 0 0 0 r τ → Rn_R_X7_isomers 1 σ (nI (dp_cp (pd_u d) k)) (nI (dp_ap (pd_u d) k)) (nI k) 0 0 0 0 0 r τ := by
  have h7 := h.1.1
  have n01 : ¬ ((1 : Int32) = 0) := by decide
  intro m
  induction m with
  | zero =>
    intro k σ hk hm hN
    have hk' : k = pd_n d := by omega
    subst hk'
    refine ⟨σ, fun _ _ => rfl, fun r τ hx => ?_⟩
    rw [(pd_c_7 h).1, (pd_c_7 h).2] at hx
    apply ru_R_X7_isomers_1
    unfold tr_R_X7_isomers_1
    rw [hm.1.1, if_pos (nI_le (by omega) (by omega))]
    exact hx
  | succ m ih =>
    intro k σ hk hm hN
    obtain ⟨τ1, p1, p2⟩ := sp_mCentreSense h hm pN_own hN (show k < pd_n d by omega)
    have ec : (if pd_ce d k = true then pd_cL d k ((List.range (pd_n d)).filter (pd_P d k (pd_n d))) else 0) = pd_cs d k := rfl
    rw [ec] at p1
    obtain ⟨σ1, i1, i2⟩ := ih (k + 1) τ1 (by omega) (mD_fr hm (by rw [p2 0 (by decide)]; exact ⟨rfl, rfl⟩) (fun c _ h => p2 c (by omega))) (mN_fr hN (p2 8 (by decide)) (p2 9 (by decide)))
    refine ⟨σ1, fun c hc => (i1 c hc).trans (p2 c hc), fun r τ hx => ?_⟩
    have ih' := i2 r τ hx
    have es : dp_cp (pd_u d) (k + 1) = dp_cp (pd_u d) k + if pd_u d k = true then 1 else 0 := rfl
    have ea : dp_ap (pd_u d) (k + 1) = dp_ap (pd_u d) k + if pd_u d k = true then 2 ^ k else 0 := rfl
    rw [es, ea] at ih'
    have hu := pd_u_a h (a := k) (by omega)
    apply ru_R_X7_isomers_1
    unfold tr_R_X7_isomers_1
    rw [hm.1.1, if_neg (nI_ge (by omega) (by omega))]
    refine ⟨_, τ1, p1, ?_⟩
    by_cases q : pd_cs d k = 0
    · rw [if_neg (fun w => hu.mp w q), if_neg (fun w => hu.mp w q), Nat.add_zero, Nat.add_zero] at ih'
      rw [if_pos ((p3_0 (p3_cs d k)).mpr q), if_pos rfl]
      intro y hy
      rw [if_pos rfl]
      intro z hz'
      rw [nI_a0] at hy
      rw [sp_inc] at hz'
      subst hy
      subst hz'
      exact ih'
    · rw [if_pos (hu.mpr q), if_pos (hu.mpr q)] at ih'
      rw [if_neg (fun w => q ((p3_0 (p3_cs d k)).mp w)), if_neg n01]
      intro y hy
      rw [if_neg n01]
      intro x hx' z hz'
      rw [sp_or (dp_ap_lt _ _) (by omega)] at hx'
      rw [sp_inc] at hy
      rw [sp_inc] at hz'
      subst hy
      subst hz'
      subst hx'
      exact ih'
theorem op_isomers (σ σ' : sf_St) (h : Inv σ σ') : ∃ (r : Int32) (τ τ' : sf_St), R_X6_isomers σ r τ ∧ R_X7_isomers σ' r τ' ∧ Inv τ τ' := by
  obtain ⟨d, hw, hc, hm, hC, hM, hK, hT, hB⟩ := h
  have h7 := hw.1.1
  have h9 := hw.1.2
  obtain ⟨τ, t1, t2, t3, t4, t5⟩ := sp_settle hw hc hC hB
  have hcτ : cD d τ := cD_fr hc (fun c h1 h2 => t2 c (by omega))
  have hcn := sp_count hw hcτ t4
  obtain ⟨τ1, s1, s2, s3⟩ := sp_ownNumbers hw hm
  have hm1 : mD d τ1 := mD_fr hm (by rw [s2 0 (by decide) (by decide)]; exact ⟨rfl, rfl⟩) (fun c _ h => s2 c (by omega) (by omega))
  obtain ⟨σ1, i1, i2⟩ := sp_mIso_1 hw (pd_n d) 0 τ1 (by omega) hm1 s3
  have hm2 : mD d σ1 := mD_fr hm1 (by rw [i1 0 (by decide)]; exact ⟨rfl, rfl⟩) (fun c _ h => i1 c (by omega))
  have hN2 : mN d (List.range (pd_n d)) σ1 := mN_fr s3 (i1 8 (by decide)) (i1 9 (by decide))
  have hgo : ∀ r τ', (nI (pd_c d) ≤ (4 : Int32) → Rn_R_X7_isomers 3 σ1 (nI (pd_c d)) (nI (dp_al (pd_u d) 16 0)) 0 (nI (dp_al (pd_u d) 16 0)) 1 0 0 0 r τ') → (¬ nI (pd_c d) ≤ (4 : Int32) → (r = -1 ∧ τ' = σ1)) → R_X7_isomers σ' r τ' := by
    intro r τ' hx hx'
    have h2 := sp_mIso_2 hw hm2 hN2 (pd_c_eq hw).1 (pd_c_eq hw).2 hx hx' (pd_b d) 0 (by omega)
    unfold R_X7_isomers
    apply ru_R_X7_isomers_0
    unfold tr_R_X7_isomers_0
    exact ⟨τ1, s1, i2 r τ' h2⟩
  have hM2 : iv_M d σ1 := by
    unfold iv_M mS
    rw [i1 0 (by decide), i1 10 (by decide), i1 11 (by decide), s2 0 (by decide) (by decide), s2 10 (by decide) (by decide), s2 11 (by decide) (by decide)]
    exact hM
  have hcp : pd_c d ≤ 16 := by
    have := dp_cp_le (pd_u d) (7 + pd_b d)
    rw [(pd_c_eq hw).1] at this
    omega
  by_cases h4 : pd_c d ≤ 4
  · have q4 : nI (pd_c d) ≤ (4 : Int32) := nI_le (b := 4) h4 (by decide)
    obtain ⟨υ, u1, u2, u3, u4⟩ := sp_iso_1 hw h4 (2 ^ pd_c d) 0 [] τ (by omega) (Nat.le_refl _) (fun j hj => absurd hj (Nat.not_lt_zero _)) hcτ t4 t5
    have hpos : 0 < 2 ^ pd_c d := Nat.two_pow_pos _
    obtain ⟨τ', v1, v2, v3, v4, v5⟩ := sp_mIso_3 hw h4 (nI (pd_c d)) (2 ^ pd_c d - 1) [] σ1 (by show 0 + _ < _; omega) (fun j hj => absurd hj (Nat.not_lt_zero _)) hm2 hM2
    have et : pd_tm d (2 ^ pd_c d - 1) = dp_al (pd_u d) 16 0 := dp_al_top _ _ _
    rw [et] at v1
    have el : ((List.range' 0 (2 ^ pd_c d)).map (pd_V d)).foldl ins [] = ((List.range (2 ^ pd_c d - 1 + 1)).map (pd_V d)).foldl ins [] := by
      rw [Nat.sub_add_cancel hpos, List.range_eq_range']
    rw [el, ins_same] at u1
    refine ⟨_, υ, τ', ?_, hgo _ τ' (fun _ => v1) (fun q => absurd q4 q), ?_⟩
    · unfold R_X6_isomers
      apply ru_R_X6_isomers_0
      unfold tr_R_X6_isomers_0
      refine ⟨τ, t1, _, τ, hcn, ?_⟩
      rw [if_pos q4]
      exact u1
    · have g : ∀ c, 35 ≤ c → c ≠ 45 → υ c = τ c := fun c h1 h2 => u2 c (by omega) (by omega) (by omega) (by omega) (by omega) (by omega) (by omega) (by omega) (by omega) (by omega)
      refine inv_of hw (cD_fr hcτ (fun c h1 h2 => u2 c (by omega) (by omega) (by omega) (by omega) (by omega) (by omega) (by omega) (by omega) (by omega) (by omega))) v3 (Or.inr ⟨?_, u3⟩) (Or.inr ⟨v4, v5⟩) hK hT u4 ?_ ?_ ?_ ?_ ?_ ?_ (fun j j1 j2 => ?_)
      · rw [u2 0 (by decide) (by decide) (by decide) (by decide) (by decide) (by decide) (by decide) (by decide) (by decide) (by decide)]; exact t3
      · rw [g 38 (by decide) (by decide)]; exact t2 38 (by decide)
      · rw [g 39 (by decide) (by decide)]; exact t2 39 (by decide)
      · rw [g 43 (by decide) (by decide)]; exact t2 43 (by decide)
      · rw [g 44 (by decide) (by decide)]; exact t2 44 (by decide)
      · rw [v2.1 12 (by decide) (by decide) (by decide) (by decide) (by decide) (by decide) (by decide), i1 12 (by decide), s2 12 (by decide) (by decide)]
      · rw [v2.1 13 (by decide) (by decide) (by decide) (by decide) (by decide) (by decide) (by decide), i1 13 (by decide), s2 13 (by decide) (by decide)]
      · rw [v2.2 j j1 j2, i1 0 (by decide), s2 0 (by decide) (by decide)]
  · have q4 : ¬ nI (pd_c d) ≤ (4 : Int32) := nI_ge (a := 4) (by omega) (by omega)
    refine ⟨-1, τ, σ1, ?_, hgo _ _ (fun q => absurd q q4) (fun _ => ⟨rfl, rfl⟩), ?_⟩
    · unfold R_X6_isomers
      apply ru_R_X6_isomers_0
      unfold tr_R_X6_isomers_0
      refine ⟨τ, t1, _, τ, hcn, ?_⟩
      rw [if_neg q4]
      exact ⟨rfl, rfl⟩
    · refine inv_of hw hcτ hm2 (Or.inr ⟨t3, t4⟩) hM2 hK hT t5 (t2 38 (by decide)) (t2 39 (by decide)) (t2 43 (by decide)) (t2 44 (by decide)) ?_ ?_ (fun j j1 j2 => ?_)
      · rw [i1 12 (by decide), s2 12 (by decide) (by decide)]
      · rw [i1 13 (by decide), s2 13 (by decide) (by decide)]
      · rw [i1 0 (by decide), s2 0 (by decide) (by decide)]
end ISO3
