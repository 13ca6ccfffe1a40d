/-! the class's search: place -/
section CS3
variable {d : pd_D}
def cf (σ τ : sf_St) : Prop := (∀ c, c ≠ 27 → c ≠ 28 → c ≠ 30 → c ≠ 31 → c ≠ 33 → c ≠ 34 → τ c = σ c) ∧ ∀ j, j ≠ 4 → τ 27 j = σ 27 j
theorem cf_r (σ : sf_St) : cf σ σ := ⟨fun _ _ _ _ _ _ _ => rfl, fun _ _ => rfl⟩
theorem cf_t {σ τ υ : sf_St} (h1 : cf σ τ) (h2 : cf τ υ) : cf σ υ := ⟨fun c a1 a2 a3 a4 a5 a6 => (h2.1 c a1 a2 a3 a4 a5 a6).trans (h1.1 c a1 a2 a3 a4 a5 a6), fun j hj => (h2.2 j hj).trans (h1.2 j hj)⟩
def cz (c : Nat) : Prop := c ≠ 27 ∧ c ≠ 28 ∧ c ≠ 30 ∧ c ≠ 31 ∧ c ≠ 33 ∧ c ≠ 34
theorem cf_at {σ τ : sf_St} (h : cf σ τ) {c : Nat} (hc : cz c) : τ c = σ c := h.1 c hc.1 hc.2.1 hc.2.2.1 hc.2.2.2.1 hc.2.2.2.2.1 hc.2.2.2.2.2
/-- what stays as it is while the search goes on -/
def cW (d : pd_D) (sa sb sh : Nat) (A B : Nat → Int) (σ : sf_St) : Prop := cD d σ ∧ cHd d σ ∧ cSn d sa sb sh A B σ
theorem cW_fr {sa sb sh : Nat} {A B : Nat → Int} {σ τ : sf_St} (za : cz sa) (zb : cz sb) (zh : cz sh) (hW : cW d sa sb sh A B σ) (h : cf σ τ) : cW d sa sb sh A B τ := by
  refine ⟨cD_fr hW.1 (fun c h1 h2 => h.1 c (by omega) (by omega) (by omega) (by omega) (by omega) (by omega)), ?_, ?_⟩
  · unfold cHd
    rw [h.1 35 (by decide) (by decide) (by decide) (by decide) (by decide) (by decide)]
    exact hW.2.1
  · unfold cSn
    rw [cf_at h za, cf_at h zb, cf_at h zh]
    exact hW.2.2
def pd_al (d : pd_D) (a : Nat) : Bool := decide (pd_lf d a = pd_v (pd_e d a))
theorem sp_isAlone (h : pd_W d) {σ : sf_St} (hc : cD d σ) {a : Nat} (ha : a < pd_n d) : R_X0_isAlone σ (nI a) (if pd_al d a = true then 1 else 0) σ := by
  have h7 := h.1.1
  have he := (h.2.1 a ha).1
  have hv := pd_v_le (pd_e d a)
  have hlf : pd_lf d a ≤ 4 := by unfold pd_lf; omega
  unfold R_X0_isAlone
  refine ⟨_, σ, sp_freeValence h hc ha, sp_in (by omega) (by decide), ?_⟩
  rw [sp_ix (by omega), (hc.2.1 a ha).1, sp_val _ he]
  refine ⟨sp_in he (by decide), ?_⟩
  unfold pd_al
  by_cases hq : pd_lf d a = pd_v (pd_e d a)
  · rw [hq, if_pos rfl]
    simp
  · rw [if_neg (fun q => hq ((nI_eq (by omega) (by omega)).mp q))]
    simp [hq]
theorem cP_give (h7 : pd_n d ≤ 7) {pre : List Nat} {σ : sf_St} (hok : pm_ok (pd_n d) pre) (hP : cP d pre σ) {a : Nat} (ha : a < pd_n d) (hn : a ∉ pre) (hl : pre.length < pd_n d) : ∃ τ, R_X2_give σ (nI a) (nI pre.length) τ ∧ cP d (pre ++ [a]) τ ∧ ∀ c, c ≠ 33 → c ≠ 34 → τ c = σ c := by
  refine ⟨sf_up (sf_up σ 33 pre.length (nI a)) 34 a (nI pre.length), ?_, ⟨fun j hj => ?_, fun b hb => ?_⟩, fun c h1 h2 => by rw [sf_up_ne _ _ _ h2, sf_up_ne _ _ _ h1]⟩
  · unfold R_X2_give
    simp only [forall_eq, sp_ix (show a < 2 ^ 31 by omega), sp_ix (show pre.length < 2 ^ 31 by omega)]
    exact ⟨sp_in (by omega) (by decide), sp_in (by omega) (by decide), by trivial⟩
  · rw [List.length_append, List.length_singleton] at hj
    rw [sf_up_ne _ _ _ (by decide), sf_up_at, if_pos rfl]
    by_cases hjl : j = pre.length
    · subst hjl; rw [if_pos rfl, pd_getD_app_r]
    · rw [if_neg hjl, pd_getD_app_l _ _ (by omega)]; exact hP.1 j (by omega)
  · rw [sf_up_at, if_pos rfl]
    by_cases hba : b = a
    · subst hba
      rw [if_pos rfl, if_pos (by simp), List.idxOf_append, if_neg hn]
      simp
    · rw [if_neg hba, sf_up_ne _ _ _ (by decide), hP.2 b hb]
      by_cases hm : b ∈ pre
      · rw [if_pos hm, if_pos (List.mem_append_left _ hm), List.idxOf_append, if_pos hm]
      · rw [if_neg hm, if_neg (by simp [hm, hba])]
theorem cP_back (h7 : pd_n d ≤ 7) {pre : List Nat} {σ : sf_St} {a : Nat} (hP : cP d (pre ++ [a]) σ) (ha : a < pd_n d) (hn : a ∉ pre) (hl : pre.length < pd_n d) : ∃ τ, R_X2_takeBack σ (nI a) (nI pre.length) τ ∧ cP d pre τ ∧ ∀ c, c ≠ 33 → c ≠ 34 → τ c = σ c := by
  refine ⟨sf_up (sf_up σ 33 pre.length (-1)) 34 a (-1), ?_, ⟨fun j hj => ?_, fun b hb => ?_⟩, fun c h1 h2 => by rw [sf_up_ne _ _ _ h2, sf_up_ne _ _ _ h1]⟩
  · unfold R_X2_takeBack
    simp only [forall_eq, sp_ix (show a < 2 ^ 31 by omega), sp_ix (show pre.length < 2 ^ 31 by omega)]
    exact ⟨sp_in (by omega) (by decide), sp_in (by omega) (by decide), by trivial⟩
  · rw [sf_up_ne _ _ _ (by decide), sf_up_at, if_pos rfl, if_neg (by omega), hP.1 j (by rw [List.length_append]; omega), pd_getD_app_l _ _ hj]
  · rw [sf_up_at, if_pos rfl]
    by_cases hba : b = a
    · subst hba
      rw [if_pos rfl, if_neg hn]
    · rw [if_neg hba, sf_up_ne _ _ _ (by decide), hP.2 b hb]
      by_cases hm : b ∈ pre
      · rw [if_pos hm, if_pos (List.mem_append_left _ hm), List.idxOf_append, if_pos hm]
      · rw [if_neg hm, if_neg (by simp [hm, hba])]
end CS3
