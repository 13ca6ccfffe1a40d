/-! the class: a numbering's code -/
section SN8
variable {d : pd_D} {σ : sf_St}
def cSn (d : pd_D) (sa sb sh : Nat) (A B : Nat → Int) (σ : sf_St) : Prop := (∀ a, a < pd_n d → σ sa a = iI (A a) ∧ p3 (A a)) ∧ (∀ k, k < pd_b d → σ sb k = iI (B k) ∧ p3 (B k) ∧ σ sh k = if pd_hi d k = true then 1 else 0)
def cT (d : pd_D) (π : List Nat) (σ : sf_St) : Prop := (∀ i, i < pd_n d → σ 33 i = nI (π.getD i 0)) ∧ cNn d 34 (pd_num π) σ
theorem pd_take_succ {π : List Nat} {k : Nat} (hk : k < π.length) : π.take (k + 1) = π.take k ++ [π.getD k 0] := by
  rw [List.take_succ, List.getElem?_eq_getElem hk]
  have : π.getD k 0 = π[k] := by simp [List.getD_eq_getElem?_getD, List.getElem?_eq_getElem hk]
  rw [this]
  rfl
theorem cd_h_some {π : List Nat} {i j k : Nat} (hb : pd_bo d (π.getD i 0) (π.getD j 0) = some k) : cd_h d π i j = if pd_hi d k = true then some k else none := by
  unfold cd_h
  rw [hb]
  by_cases hh : pd_hi d k = true
  · simp [Option.filter, hh]
  · simp [Option.filter, hh]
theorem cd_h_none {π : List Nat} {i j : Nat} (hb : pd_bo d (π.getD i 0) (π.getD j 0) = none) : cd_h d π i j = none := by
  unfold cd_h
  rw [hb]
  rfl
variable {sa sb sh sr : Nat} {A B : Nat → Int} {π : List Nat}
theorem cd_B_p3 {k : Nat} (hB3 : p3 (B k)) : p3 (B k * pd_os d (pd_num π) (pd_f d k) (pd_s d k) * pd_os d (pd_num π) (pd_s d k) (pd_f d k)) := p3_mul (p3_mul hB3 (pd_os_pm _ _ _ _)) (pd_os_pm _ _ _ _)
theorem sp_code_3 (h : pd_W d) (hc : cD d σ) (hp : pN d π) (hT : cT d π σ) (hS : cSn d sa sb sh A B σ) (c0 : Nat) {r : Int32} {τ : sf_St} {i : Nat} (hi : i < pd_n d)
    (hx : Rn_R_X2_code sa sb sh sr 2 σ (nI ((cd_H d π (i + 1)).foldl (cd_B d B π) c0)) (nI (i + 1)) 0 r τ) : ∀ m j, j + m = i →
    Rn_R_X2_code sa sb sh sr 3 σ (nI ((cd_H d π i ++ cd_J d π i j).foldl (cd_B d B π) c0)) (nI i) (nI j) r τ := by
  have h7 := h.1.1
  have h9 := h.1.2
  intro m
  induction m with
  | zero =>
    intro j hj
    have hj' : j = i := by omega
    subst hj'
    apply ru_R_X2_code_3
    unfold tr_R_X2_code_3
    rw [if_pos (nI_le (by omega) (by omega)), ← cd_H_succ]
    intro y hy
    rw [sp_inc] at hy
    subst hy
    exact hx
  | succ m ih =>
    intro j hj
    have ih' := ih (j + 1) (by omega)
    rw [cd_J_succ, ← List.append_assoc, List.foldl_append] at ih'
    generalize (cd_H d π i ++ cd_J d π i j).foldl (cd_B d B π) c0 = c at *
    have g1 := pN_getD hp hi
    have g2 := pN_getD hp (show j < pd_n d by omega)
    apply ru_R_X2_code_3
    unfold tr_R_X2_code_3
    rw [if_neg (nI_ge (by omega) (by omega)), sp_ix (by omega), sp_ix (by omega), hT.1 i hi, hT.1 j (by omega)]
    refine ⟨sp_in (by omega) (by decide), sp_in (by omega) (by decide), ?_⟩
    have hbo := sp_bondOf hc (a := π.getD i 0) (b := π.getD j 0) (by omega) (by omega)
    refine ⟨_, σ, hbo, ?_⟩
    cases hb : pd_bo d (π.getD i 0) (π.getD j 0) with
    | none =>
      have e1 : pd_lk d (π.getD i 0) (π.getD j 0) = 0 := by unfold pd_lk; rw [hb]
      rw [cd_h_none hb] at ih'
      rw [e1, if_pos (by decide)]
      intro y hy
      rw [sp_inc] at hy
      subst hy
      exact ih'
    | some k =>
      have e1 : pd_lk d (π.getD i 0) (π.getD j 0) = k + 1 := by unfold pd_lk; rw [hb]
      have hk := (pd_bo_some hb).1
      obtain ⟨b1, b2, b3⟩ := hS.2 k hk
      rw [cd_h_some hb] at ih'
      rw [e1, nI_pred, if_neg (sp_m1 (by omega)), sp_ix (by omega), b3]
      refine ⟨sp_in (by omega) (by decide), ?_⟩
      by_cases hh : pd_hi d k = true
      · rw [if_pos hh] at ih'
        have o1 : (if pd_hi d k = true then (1 : Int32) else 0) = 1 := if_pos hh
        rw [o1, if_neg (by decide)]
        refine ⟨_, σ, sp_nSenseOfBond h hc hT.2 hk b1 b2, ?_⟩
        intro y hy z hz
        rw [sp_inc] at hz
        rw [pd_dg_I c (cd_B_p3 b2)] at hy
        subst hy
        subst hz
        exact ih'
      · rw [if_neg hh] at ih'
        have o1 : (if pd_hi d k = true then (1 : Int32) else 0) = 0 := if_neg hh
        rw [o1, if_pos rfl]
        intro y hy
        rw [sp_inc] at hy
        subst hy
        exact ih'
theorem sp_code_2 (h : pd_W d) (hc : cD d σ) (hp : pN d π) (hT : cT d π σ) (hS : cSn d sa sb sh A B σ) (c0 : Nat) : ∀ m i, i + m = pd_n d →
    Rn_R_X2_code sa sb sh sr 2 σ (nI ((cd_H d π i).foldl (cd_B d B π) c0)) (nI i) 0 (nI ((cd_H d π (pd_n d)).foldl (cd_B d B π) c0)) σ := by
  have h7 := h.1.1
  intro m
  induction m with
  | zero =>
    intro i hi
    have hi' : i = pd_n d := by omega
    subst hi'
    apply ru_R_X2_code_2
    unfold tr_R_X2_code_2
    rw [hc.1.1, if_pos (nI_le (by omega) (by omega))]
    exact ⟨rfl, rfl⟩
  | succ m ih =>
    intro i hi
    apply ru_R_X2_code_2
    unfold tr_R_X2_code_2
    rw [hc.1.1, if_neg (nI_ge (by omega) (by omega))]
    have := sp_code_3 h hc hp hT hS c0 (show i < pd_n d by omega) (ih (i + 1) (by omega)) i 0 (by omega)
    have e : cd_H d π i ++ cd_J d π i 0 = cd_H d π i := List.append_nil _
    rw [e] at this
    exact this
theorem sp_code_1 (h : pd_W d) (hc : cD d σ) (hp : pN d π) (hT : cT d π σ) (hS : cSn d sa sb sh A B σ) : ∀ m k, k + m = pd_n d →
    Rn_R_X2_code sa sb sh sr 1 σ (nI ((π.take k).foldl (cd_A d A π) 0)) (nI k) 0 (nI (pd_code d A B π)) σ := by
  have h7 := h.1.1
  intro m
  induction m with
  | zero =>
    intro k hk
    have hk' : k = pd_n d := by omega
    subst hk'
    apply ru_R_X2_code_1
    unfold tr_R_X2_code_1
    rw [hc.1.1, if_pos (nI_le (by omega) (by omega)), pd_code_eq, List.take_of_length_le (by rw [hp.2]; exact Nat.le_refl _), hp.2]
    exact sp_code_2 h hc hp hT hS _ (pd_n d) 0 (by omega)
  | succ m ih =>
    intro k hk
    have hkn : k < pd_n d := by omega
    have ih' := ih (k + 1) (by omega)
    rw [pd_take_succ (by rw [hp.2]; exact hkn), List.foldl_append] at ih'
    have g1 := pN_getD hp hkn
    obtain ⟨a1, a2⟩ := hS.1 _ g1
    apply ru_R_X2_code_1
    unfold tr_R_X2_code_1
    rw [hc.1.1, if_neg (nI_ge (by omega) (by omega)), sp_ix (by omega), hT.1 k hkn]
    refine ⟨sp_in (by omega) (by decide), _, σ, sp_nSenseOfAtom h hc hT.2 g1 a1 a2, ?_⟩
    intro y hy z hz
    rw [sp_inc] at hz
    rw [pd_dg_I _ (p3_mul a2 (pd_os_pm _ _ _ _))] at hy
    subst hy
    subst hz
    exact ih'
theorem sp_code (h : pd_W d) (hc : cD d σ) (hp : pN d π) (hT : cT d π σ) (hS : cSn d sa sb sh A B σ) : R_X2_code sa sb sh sr σ (nI (pd_code d A B π)) σ := by
  unfold R_X2_code
  apply ru_R_X2_code_0
  unfold tr_R_X2_code_0
  exact sp_code_1 h hc hp hT hS (pd_n d) 0 (by omega)
end SN8
