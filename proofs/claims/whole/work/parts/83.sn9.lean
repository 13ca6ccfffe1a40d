/-! the reference: a numbering's senses, some of them turned -/
theorem sn_sm : ∀ i, i < 32 → ((nI i &&& 31).toBitVec.smod 32).toNat = i := by decide +kernel
theorem sn_bit {t i : Nat} (ht : t < 2 ^ 31) (hi : i < 32) : (((nI t >>> (nI i &&& 31)) &&& (1 : Int32)) = (1 : Int32)) ↔ t / 2 ^ i % 2 = 1 := by
  rw [pk_shrN ht _ i (sn_sm i hi), pk_andN (k := 1) (Nat.lt_of_le_of_lt (Nat.div_le_self _ _) (by omega)) (by decide)]
  show nI (t / 2 ^ i % 2) = nI 1 ↔ _
  exact nI_eq (by omega) (by decide)
def tA (d : pd_D) (t a : Nat) : Int := if t / 2 ^ a % 2 = 1 then - pd_cs d a else pd_cs d a
def tB (d : pd_D) (t k : Nat) : Int := if t / 2 ^ (7 + k) % 2 = 1 then - pd_hs d k else pd_hs d k
section SN9
variable {d : pd_D} {σ : sf_St}
theorem p3_sign (z : Int) : p3 (Int.sign z) := by
  rcases Int.lt_trichotomy z 0 with h | h | h
  · exact Or.inl (Int.sign_eq_neg_one_of_neg h)
  · exact Or.inr (Or.inl (by rw [h]; rfl))
  · exact Or.inr (Or.inr (Int.sign_eq_one_of_pos h))
theorem p3_z : p3 0 := Or.inr (Or.inl rfl)
theorem p3_neg {z : Int} (h : p3 z) : p3 (- z) := by
  rcases h with rfl | rfl | rfl
  · exact Or.inr (Or.inr rfl)
  · exact p3_z
  · exact Or.inl rfl
theorem p3_mul3 {u v : Int} (hu : p3 u) (hv : p3 v) : p3 (u * v) := by
  rcases hv with rfl | rfl | rfl
  · exact p3_mul hu (Or.inr rfl)
  · rw [Int.mul_zero]; exact p3_z
  · exact p3_mul hu (Or.inl rfl)
theorem p3_cs (d : pd_D) (a : Nat) : p3 (pd_cs d a) := by
  unfold pd_cs
  split
  · exact p3_sign _
  · exact p3_z
theorem p3_en (d : pd_D) (a b : Nat) (L : List Nat) : p3 (pd_en d a b L) := by
  unfold pd_en
  split
  · exact pd_sd_3 d a b _
  · split
    · exact p3_z
    · exact pd_sd_3 d a b _
  · exact p3_z
theorem p3_hs (d : pd_D) (k : Nat) : p3 (pd_hs d k) := by
  unfold pd_hs
  split
  · exact p3_mul3 (p3_en _ _ _ _) (p3_en _ _ _ _)
  · exact p3_z
theorem p3_tA (d : pd_D) (t a : Nat) : p3 (tA d t a) := by
  unfold tA
  split
  · exact p3_neg (p3_cs d a)
  · exact p3_cs d a
theorem p3_tB (d : pd_D) (t k : Nat) : p3 (tB d t k) := by
  unfold tB
  split
  · exact p3_neg (p3_hs d k)
  · exact p3_hs d k
theorem mN_fr {π : List Nat} {τ : sf_St} (hN : mN d π σ) (h8 : τ 8 = σ 8) (h9 : τ 9 = σ 9) : mN d π τ := by
  unfold mN
  rw [h8, h9]
  exact hN
variable {π : List Nat} {t : Nat}
theorem sp_mNow_3 (h : pd_W d) (hm : mD d σ) (hp : pN d π) (hN : mN d π σ) (ht : t < 2 ^ 16) (c0 : Nat) {r : Int32} {τ : sf_St} {i : Nat} (hi : i < pd_n d)
    (hx : Rn_R_X7_sensesNow 2 σ (nI t) (nI ((cd_H d π (i + 1)).foldl (cd_B d (tB d t) π) c0)) (nI (i + 1)) 0 r τ) : ∀ m j, j + m = i →
    Rn_R_X7_sensesNow 3 σ (nI t) (nI ((cd_H d π i ++ cd_J d π i j).foldl (cd_B d (tB d t) π) c0)) (nI i) (nI j) r τ := by
  have h7 := h.1.1
  have h9 := h.1.2
  intro m
  induction m with
  | zero =>
    intro j hj
    have hj' : j = i := by omega
    subst hj'
    apply ru_R_X7_sensesNow_3
    unfold tr_R_X7_sensesNow_3
    rw [if_pos (nI_le (by omega) (by omega)), ← cd_H_succ]
    intro y hy
    rw [sp_inc] at hy
    subst hy
    exact hx
  | succ m ih =>
    intro j hj
    have ih' := ih (j + 1) (by omega)
    rw [cd_J_succ, ← List.append_assoc, List.foldl_append] at ih'
    generalize (cd_H d π i ++ cd_J d π i j).foldl (cd_B d (tB d t) π) c0 = c at *
    have g1 := pN_getD hp hi
    have g2 := pN_getD hp (show j < pd_n d by omega)
    apply ru_R_X7_sensesNow_3
    unfold tr_R_X7_sensesNow_3
    rw [if_neg (nI_ge (by omega) (by omega)), sp_ix (by omega), sp_ix (by omega), (hN i hi).1, (hN j (by omega)).1]
    refine ⟨sp_in (by omega) (by decide), sp_in (by omega) (by decide), ?_⟩
    have hbo := sp_mBondOf h hm (a := π.getD i 0) (b := π.getD j 0) (by omega) (by omega)
    refine ⟨_, σ, hbo, ?_⟩
    cases hb : pd_bo d (π.getD i 0) (π.getD j 0) with
    | none =>
      have e1 : pd_bi d (π.getD i 0) (π.getD j 0) = -1 := by unfold pd_bi; rw [hb]
      rw [cd_h_none hb] at ih'
      rw [e1, if_pos (by decide)]
      intro y hy
      rw [sp_inc] at hy
      subst hy
      exact ih'
    | some k =>
      have e1 : pd_bi d (π.getD i 0) (π.getD j 0) = nI k := by unfold pd_bi; rw [hb]
      have hk := (pd_bo_some hb).1
      rw [cd_h_some hb] at ih'
      rw [e1, if_neg (nI_pos (by omega))]
      have hh' := sp_mHinge h hm hk
      by_cases hh : pd_hi d k = true
      · rw [if_pos hh] at ih' hh'
        refine ⟨_, σ, hh', ?_⟩
        rw [if_neg (by decide)]
        refine ⟨_, σ, sp_mHingeSense h hm hp hN hk, ?_⟩
        rw [pd_hp_pi h hp hk]
        have e7 : (7 : Int32) + nI k = nI (7 + k) := nI_add 7 k
        rw [e7]
        have hbit := sn_bit (t := t) (i := 7 + k) (by omega) (by omega)
        have ih2 : Rn_R_X7_sensesNow 3 σ (nI t) (nI (pd_dg c (tB d t k * pd_os d (pd_num π) (pd_f d k) (pd_s d k) * pd_os d (pd_num π) (pd_s d k) (pd_f d k)))) (nI i) (nI (j + 1)) r τ := ih'
        rw [← pd_dg_I c (cd_B_p3 (p3_tB d t k))] at ih2
        by_cases hq : t / 2 ^ (7 + k) % 2 = 1
        · rw [if_pos (hbit.mpr hq)]
          have e : tB d t k = - pd_hs d k := if_pos hq
          rw [e] at ih2
          intro y hy z hz
          rw [sp_inc] at hz
          subst hy
          subst hz
          rw [iI_neg, ← Int.neg_mul, ← Int.neg_mul]
          exact ih2
        · rw [if_neg (fun w => hq (hbit.mp w))]
          have e : tB d t k = pd_hs d k := if_neg hq
          rw [e] at ih2
          intro y hy z hz
          rw [sp_inc] at hz
          subst hy
          subst hz
          exact ih2
      · rw [if_neg hh] at ih' hh'
        refine ⟨_, σ, hh', ?_⟩
        rw [if_pos rfl]
        intro y hy
        rw [sp_inc] at hy
        subst hy
        exact ih'
theorem sp_mNow_2 (h : pd_W d) (hm : mD d σ) (hp : pN d π) (hN : mN d π σ) (ht : t < 2 ^ 16) (c0 : Nat) : ∀ m i, i + m = pd_n d →
    Rn_R_X7_sensesNow 2 σ (nI t) (nI ((cd_H d π i).foldl (cd_B d (tB d t) π) c0)) (nI i) 0 (nI ((cd_H d π (pd_n d)).foldl (cd_B d (tB d t) π) c0)) σ := by
  have h7 := h.1.1
  intro m
  induction m with
  | zero =>
    intro i hi
    have hi' : i = pd_n d := by omega
    subst hi'
    apply ru_R_X7_sensesNow_2
    unfold tr_R_X7_sensesNow_2
    rw [hm.1.1, if_pos (nI_le (by omega) (by omega))]
    exact ⟨rfl, rfl⟩
  | succ m ih =>
    intro i hi
    apply ru_R_X7_sensesNow_2
    unfold tr_R_X7_sensesNow_2
    rw [hm.1.1, if_neg (nI_ge (by omega) (by omega))]
    have := sp_mNow_3 h hm hp hN ht c0 (show i < pd_n d by omega) (ih (i + 1) (by omega)) i 0 (by omega)
    have e : cd_H d π i ++ cd_J d π i 0 = cd_H d π i := List.append_nil _
    rw [e] at this
    exact this
theorem sp_mNow_1 (h : pd_W d) (hp : pN d π) (ht : t < 2 ^ 16) : ∀ m k (σ : sf_St), k + m = pd_n d → mD d σ → mN d π σ →
    ∃ τ, Rn_R_X7_sensesNow 1 σ (nI t) (nI ((π.take k).foldl (cd_A d (tA d t) π) 0)) (nI k) 0 (nI (pd_code d (tA d t) (tB d t) π)) τ ∧ ∀ c, c ≠ 14 → τ c = σ c := by
  have h7 := h.1.1
  intro m
  induction m with
  | zero =>
    intro k σ hk hm hN
    have hk' : k = pd_n d := by omega
    subst hk'
    refine ⟨σ, ?_, fun _ _ => rfl⟩
    apply ru_R_X7_sensesNow_1
    unfold tr_R_X7_sensesNow_1
    rw [hm.1.1, if_pos (nI_le (by omega) (by omega)), pd_code_eq, List.take_of_length_le (by rw [hp.2]; exact Nat.le_refl _), hp.2]
    exact sp_mNow_2 h hm hp hN ht _ (pd_n d) 0 (by omega)
  | succ m ih =>
    intro k σ hk hm hN
    have hkn : k < pd_n d := by omega
    have g1 := pN_getD hp hkn
    obtain ⟨τ1, p1, p2⟩ := sp_mCentreSense h hm hp hN g1
    obtain ⟨τ, t1, t2⟩ := ih (k + 1) τ1 (by omega) (mD_fr hm (by rw [p2 0 (by decide)]; exact ⟨rfl, rfl⟩) (fun c _ h => p2 c (by omega))) (mN_fr hN (p2 8 (by decide)) (p2 9 (by decide)))
    refine ⟨τ, ?_, fun c hc => (t2 c hc).trans (p2 c hc)⟩
    rw [pd_take_succ (by rw [hp.2]; exact hkn), List.foldl_append] at t1
    rw [pd_cs_pi hp] at p1
    generalize (π.take k).foldl (cd_A d (tA d t) π) 0 = c at *
    have e8 : τ1 8 k = nI (π.getD k 0) := by rw [p2 8 (by decide)]; exact (hN k hkn).1
    apply ru_R_X7_sensesNow_1
    unfold tr_R_X7_sensesNow_1
    rw [hm.1.1, if_neg (nI_ge (by omega) (by omega)), sp_ix (by omega), (hN k hkn).1]
    refine ⟨sp_in (by omega) (by decide), _, τ1, p1, sp_in (by omega) (by decide), ?_⟩
    rw [e8]
    generalize π.getD k 0 = a at *
    have hbit := sn_bit (t := t) (i := a) (by omega) (by omega)
    have ih2 : Rn_R_X7_sensesNow 1 τ1 (nI t) (nI (pd_dg c (tA d t a * pd_os d (pd_num π) a (pd_n d)))) (nI (k + 1)) 0 (nI (pd_code d (tA d t) (tB d t) π)) τ := t1
    rw [← pd_dg_I c (p3_mul (p3_tA d t a) (pd_os_pm _ _ _ _))] at ih2
    by_cases hq : t / 2 ^ a % 2 = 1
    · rw [if_pos (hbit.mpr hq)]
      have e : tA d t a = - pd_cs d a := if_pos hq
      rw [e] at ih2
      intro y hy z hz
      rw [sp_inc] at hz
      subst hy
      subst hz
      rw [iI_neg, ← Int.neg_mul]
      exact ih2
    · rw [if_neg (fun w => hq (hbit.mp w))]
      have e : tA d t a = pd_cs d a := if_neg hq
      rw [e] at ih2
      intro y hy z hz
      rw [sp_inc] at hz
      subst hy
      subst hz
      exact ih2
theorem sp_mNow (h : pd_W d) (hm : mD d σ) (hp : pN d π) (hN : mN d π σ) (ht : t < 2 ^ 16) : ∃ τ, R_X7_sensesNow σ (nI t) (nI (pd_code d (tA d t) (tB d t) π)) τ ∧ ∀ c, c ≠ 14 → τ c = σ c := by
  obtain ⟨τ, t1, t2⟩ := sp_mNow_1 h hp ht (pd_n d) 0 σ (by omega) hm hN
  refine ⟨τ, ?_, t2⟩
  unfold R_X7_sensesNow
  apply ru_R_X7_sensesNow_0
  unfold tr_R_X7_sensesNow_0
  exact t1
end SN9
