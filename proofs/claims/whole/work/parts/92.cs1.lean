/-! the class's search: rows -/
section CS1
variable {d : pd_D} {σ : sf_St} {pre : List Nat}
def cP (d : pd_D) (pre : List Nat) (σ : sf_St) : Prop := (∀ j, j < pre.length → σ 33 j = nI (pre.getD j 0)) ∧ ∀ a, a < pd_n d → σ 34 a = if a ∈ pre then nI (pre.idxOf a) else -1
def cHd (d : pd_D) (σ : sf_St) : Prop := ∀ a, a < pd_n d → σ 35 a = nI (pd_hd d a)
theorem pm_ok_len {n : Nat} (h : pm_ok n pre) : pre.length ≤ n := by
  have := pm_subset_len pre (List.range n) h.1 (fun a ha => List.mem_range.mpr (h.2 a ha))
  rwa [List.length_range] at this
theorem pm_ok_getD {n : Nat} (h : pm_ok n pre) {j : Nat} (hj : j < pre.length) : pre.getD j 0 < n := by
  have : pre.getD j 0 = pre[j] := by simp [List.getD_eq_getElem?_getD, List.getElem?_eq_getElem hj]
  rw [this]
  exact h.2 _ (List.getElem_mem _)
theorem sp_rowOf_1 (h : pd_W d) (hc : cD d σ) (hok : pm_ok (pd_n d) pre) (hP : cP d pre σ) {a : Nat} (ha : a < pd_n d) (H : Nat) : ∀ m k, k + m = pre.length →
    Rn_R_X3_rowOf 1 σ (nI a) (nI pre.length) (nI (H + pd_sum (fun j => pd_or d a (pre.getD j 0) * 4 ^ j) k)) (nI k) (nI (H + pd_sum (fun j => pd_or d a (pre.getD j 0) * 4 ^ j) pre.length)) σ := by
  have h7 := h.1.1
  have hl := pm_ok_len hok
  intro m
  induction m with
  | zero =>
    intro k hk
    have hk' : k = pre.length := by omega
    subst hk'
    apply ru_R_X3_rowOf_1
    unfold tr_R_X3_rowOf_1
    rw [if_pos (nI_le (by omega) (by omega))]
    exact ⟨rfl, rfl⟩
  | succ m ih =>
    intro k hk
    have ih' := ih (k + 1) (by omega)
    have es : pd_sum (fun j => pd_or d a (pre.getD j 0) * 4 ^ j) (k + 1) = pd_sum (fun j => pd_or d a (pre.getD j 0) * 4 ^ j) k + pd_or d a (pre.getD k 0) * 4 ^ k := rfl
    rw [es, ← Nat.add_assoc] at ih'
    have g2 := pm_ok_getD hok (show k < pre.length by omega)
    apply ru_R_X3_rowOf_1
    unfold tr_R_X3_rowOf_1
    rw [if_neg (nI_ge (by omega) (by omega)), sp_ix (by omega), hP.1 k (by omega)]
    refine ⟨sp_in (by omega) (by decide), _, σ, sp_orderOf h hc (by omega) (by omega), ?_⟩
    intro y hy z hz
    rw [sp_inc] at hz
    have e3 : (2 : Int32) * nI k = nI (2 * k) := pk_mul 2 k
    have h4 := sn_4 k (by omega)
    have hle : pd_or d a (pre.getD k 0) * 2 ^ (2 * k) ≤ 3 * 2 ^ (2 * k) := Nat.mul_le_mul_right _ (pd_or3 h _ _)
    rw [e3, pk_shlN _ (2 * k) (sn_sm (2 * k) (by omega)) (by omega), nI_add] at hy
    have e4 : 2 ^ (2 * k) = 4 ^ k := by rw [Nat.pow_mul]
    rw [e4] at hy
    subst hy
    subst hz
    exact ih'
theorem sp_rowOf (h : pd_W d) (hc : cD d σ) (hok : pm_ok (pd_n d) pre) (hP : cP d pre σ) (hH : cHd d σ) {a : Nat} (ha : a < pd_n d) : R_X3_rowOf σ (nI a) (nI pre.length) (nI (pd_row d pre a)) σ := by
  have h7 := h.1.1
  unfold R_X3_rowOf
  apply ru_R_X3_rowOf_0
  unfold tr_R_X3_rowOf_0
  rw [sp_ix (by omega), hH a ha]
  refine ⟨sp_in (by omega) (by decide), ?_⟩
  intro y hy
  subst hy
  exact sp_rowOf_1 h hc hok hP ha (pd_hd d a) pre.length 0 (by omega)
theorem cP_free (hok : pm_ok (pd_n d) pre) (h7 : pd_n d ≤ 7) (hP : cP d pre σ) {a : Nat} (ha : a < pd_n d) : (σ 34 a = (-1 : Int32)) ↔ pre.contains a = false := by
  have hl := pm_ok_len hok
  rw [hP.2 a ha]
  by_cases hm : a ∈ pre
  · rw [if_pos hm]
    have h1 := List.idxOf_lt_length_of_mem hm
    constructor
    · intro q; exact absurd q (sp_m1 (by omega))
    · intro q; rw [List.contains_iff_mem.mpr hm] at q; cases q
  · rw [if_neg hm]
    constructor
    · intro _
      cases hc : pre.contains a with
      | false => rfl
      | true => exact absurd (List.contains_iff_mem.mp hc) hm
    · intro _; rfl
theorem sp_lowestRow_1 (h : pd_W d) (hc : cD d σ) (hok : pm_ok (pd_n d) pre) (hP : cP d pre σ) (hH : cHd d σ) : ∀ m k, k + m = pd_n d →
    Rn_R_X3_lowestRow 1 σ (nI pre.length) (nI (((List.range k).filter (fun a => !pre.contains a)).foldl (fun m a => min m (pd_row d pre a)) pm_OP)) (nI k) (nI (pm_low (pd_n d) (pd_row d) pre)) σ := by
  have h7 := h.1.1
  have hl := pm_ok_len hok
  intro m
  induction m with
  | zero =>
    intro k hk
    have hk' : k = pd_n d := by omega
    subst hk'
    apply ru_R_X3_lowestRow_1
    unfold tr_R_X3_lowestRow_1
    rw [hc.1.1, if_pos (nI_le (by omega) (by omega))]
    exact ⟨rfl, rfl⟩
  | succ m ih =>
    intro k hk
    have hkn : k < pd_n d := by omega
    have ih' := ih (k + 1) (by omega)
    rw [List.range_succ, List.filter_append, List.foldl_append] at ih'
    have hmin := (pm_min_le (pd_row d pre) ((List.range k).filter (fun a => !pre.contains a)) pm_OP).1
    have hop : pm_OP < 2 ^ 31 := by decide
    generalize ((List.range k).filter (fun a => !pre.contains a)).foldl (fun m a => min m (pd_row d pre a)) pm_OP = c at *
    have hfr := cP_free hok h7 hP hkn
    apply ru_R_X3_lowestRow_1
    unfold tr_R_X3_lowestRow_1
    rw [hc.1.1, if_neg (nI_ge (by omega) (by omega)), sp_ix (by omega)]
    refine ⟨sp_in (by omega) (by decide), ?_⟩
    by_cases hf : pre.contains k = false
    · rw [if_pos (hfr.mpr hf)]
      refine ⟨_, σ, sp_rowOf h hc hok hP hH hkn, ?_⟩
      have hr := pd_row_lt h (pre := pre) hkn (by omega)
      intro y hy z hz
      rw [sp_inc] at hz
      have ey : y = nI (min c (pd_row d pre k)) := by
        rw [hy]
        by_cases hlt : pd_row d pre k < c
        · rw [if_pos (nI_lt hlt (by omega)), Nat.min_eq_right (by omega)]
        · rw [if_neg (nI_nlt (by omega) (by omega)), Nat.min_eq_left (by omega)]
      subst ey
      subst hz
      simp only [List.filter_cons, hf, Bool.not_false, if_true, List.filter_nil, List.foldl_cons, List.foldl_nil] at ih'
      exact ih'
    · rw [if_neg (fun q => hf (hfr.mp q))]
      have hf' : pre.contains k = true := by simpa using hf
      intro z hz
      rw [sp_inc] at hz
      subst hz
      simp only [List.filter_cons, hf', Bool.not_true, Bool.false_eq_true, if_false, List.filter_nil, List.foldl_nil] at ih'
      exact ih'
theorem sp_lowestRow (h : pd_W d) (hc : cD d σ) (hok : pm_ok (pd_n d) pre) (hP : cP d pre σ) (hH : cHd d σ) : R_X3_lowestRow σ (nI pre.length) (nI (pm_low (pd_n d) (pd_row d) pre)) σ := by
  unfold R_X3_lowestRow
  apply ru_R_X3_lowestRow_0
  unfold tr_R_X3_lowestRow_0
  exact sp_lowestRow_1 h hc hok hP hH (pd_n d) 0 (by omega)
end CS1
