/-! the class's search: lower, weigh, alone -/
section CS2
variable {d : pd_D} {σ : sf_St} {pre : List Nat}
/-- what the class's search has found so far -/
def cQ (d : pd_D) (S : pm_S) (σ : sf_St) : Prop := (∀ i, i < pd_n d → σ 28 i = nI (S.1.getD i 0)) ∧ σ 27 4 = nI S.2.1 ∧ (S.2.1 < pm_OP → ∀ i, i < pd_n d → σ 30 i = nI (S.2.2.getD i 0) ∧ σ 31 (S.2.2.getD i 0) = nI i)
theorem sp_lower_1 (u0 u1 : Int32) : ∀ m k (σ : sf_St), k + m = 7 → ∃ τ, Rn_R_X3_lower 1 σ u0 u1 (nI k) τ ∧ (∀ c, c ≠ 27 → c ≠ 28 → τ c = σ c) ∧ (∀ j, j ≠ 4 → τ 27 j = σ 27 j) ∧ τ 27 4 = nI pm_OP ∧ ∀ j, j < 7 → τ 28 j = if j < k then σ 28 j else nI pm_OP := by
  intro m
  induction m with
  | zero =>
    intro k σ hk
    have hk' : k = 7 := by omega
    subst hk'
    refine ⟨sf_up σ 27 4 2147483647, ?_, fun c h1 _ => sf_up_ne _ _ _ h1, fun j hj => by rw [sf_up_at, if_pos rfl, if_neg hj], rfl, fun j hj => by rw [if_pos hj, sf_up_ne _ _ _ (by decide)]⟩
    apply ru_R_X3_lower_1
    unfold tr_R_X3_lower_1
    rw [if_pos (by decide)]
    intro t h
    exact h.symm
  | succ m ih =>
    intro k σ hk
    obtain ⟨τ, t1, t2, t3, t4, t5⟩ := ih (k + 1) (sf_up σ 28 k 2147483647) (by omega)
    refine ⟨τ, ?_, fun c h1 h2 => (t2 c h1 h2).trans (sf_up_ne _ _ _ h2), fun j hj => (t3 j hj).trans (by rw [sf_up_ne _ _ _ (by decide)]), t4, fun j hj => ?_⟩
    · apply ru_R_X3_lower_1
      unfold tr_R_X3_lower_1
      rw [if_neg (show ¬ (7 : Int32) ≤ nI k from nI_ge (a := k) (b := 7) (by omega) (by decide)), sp_ix (by omega)]
      simp only [forall_eq, sp_inc]
      exact ⟨sp_in (by omega) (by decide), t1⟩
    · rw [t5 j hj, sf_up_at, if_pos rfl]
      by_cases h1 : j < k + 1
      · rw [if_pos h1]
        by_cases h2 : j = k
        · rw [if_pos h2, if_neg (by omega)]; rfl
        · rw [if_neg h2, if_pos (by omega)]
      · rw [if_neg h1, if_neg (by omega)]
theorem sp_lower {i : Nat} (hi : i < 7) (v : Int32) : ∃ τ, R_X3_lower σ (nI i) v τ ∧ (∀ c, c ≠ 27 → c ≠ 28 → τ c = σ c) ∧ (∀ j, j ≠ 4 → τ 27 j = σ 27 j) ∧ τ 27 4 = nI pm_OP ∧ ∀ j, j < 7 → τ 28 j = if j < i then σ 28 j else if j = i then v else nI pm_OP := by
  obtain ⟨τ, t1, t2, t3, t4, t5⟩ := sp_lower_1 (nI i) v (7 - (i + 1)) (i + 1) (sf_up σ 28 i v) (by omega)
  refine ⟨τ, ?_, fun c h1 h2 => (t2 c h1 h2).trans (sf_up_ne _ _ _ h2), fun j hj => (t3 j hj).trans (by rw [sf_up_ne _ _ _ (by decide)]), t4, fun j hj => ?_⟩
  · unfold R_X3_lower
    apply ru_R_X3_lower_0
    unfold tr_R_X3_lower_0
    rw [sp_ix (by omega)]
    simp only [forall_eq, sp_inc]
    exact ⟨sp_in (by omega) (by decide), t1⟩
  · rw [t5 j hj, sf_up_at, if_pos rfl]
    by_cases h1 : j < i + 1
    · rw [if_pos h1]
      by_cases h2 : j = i
      · rw [if_pos h2, if_neg (by omega), if_pos h2]
      · rw [if_neg h2, if_pos (by omega)]
    · rw [if_neg h1, if_neg (by omega), if_neg (by omega)]
theorem cT_of (hp : pN d pre) (h7 : pd_n d ≤ 7) (hP : cP d pre σ) : cT d pre σ := by
  refine ⟨fun i hi => hP.1 i (by rw [hp.2]; exact hi), fun b hb => ?_⟩
  have hm := pN_mem hp hb
  have := pd_num_lt hp hb
  rw [hP.2 b hb, if_pos hm]
  exact ⟨rfl, by omega⟩
theorem sf_upc_eq (σ : sf_St) (k : Nat) (f : Nat → Int32) : sf_upc σ k f k = f := by
  unfold sf_upc
  rw [if_pos rfl]
theorem sf_upc_ne (σ : sf_St) {k c : Nat} (f : Nat → Int32) (h : c ≠ k) : sf_upc σ k f c = σ c := by
  unfold sf_upc
  rw [if_neg h]
theorem sp_weigh (h : pd_W d) (hc : cD d σ) (hp : pN d pre) (hP : cP d pre σ) {sa sb sh sr : Nat} {A B : Nat → Int} (hS : cSn d sa sb sh A B σ) (hA : ∀ a, p3 (A a)) (hB : ∀ k, p3 (B k)) {S : pm_S} (hQ : cQ d S σ) (hS2 : S.2.1 ≤ pm_OP) :
    ∃ τ, R_X3_weigh sa sb sh sr σ τ ∧ (∀ c, c ≠ 27 → c ≠ 30 → c ≠ 31 → τ c = σ c) ∧ (∀ j, j ≠ 4 → τ 27 j = σ 27 j) ∧ cQ d (if pd_code d A B pre < S.2.1 then (S.1, pd_code d A B pre, pre) else S) τ := by
  have h7 := h.1.1
  have hT := cT_of hp h7 hP
  have hcode := sp_code (sr := sr) h hc hp hT hS
  have hlt := pd_code_lt h hp hA hB
  have hop : pm_OP = 2147483647 := rfl
  by_cases hcs : pd_code d A B pre < S.2.1
  · rw [if_pos hcs]
    refine ⟨sf_upc (sf_upc (sf_up σ 27 4 (nI (pd_code d A B pre))) 30 (va_cpy (σ 33) (σ 30) 0 0 7)) 31 (va_cpy (σ 34) (σ 31) 0 0 7), ?_, fun c h1 h2 h3 => by rw [sf_upc_ne _ _ h3, sf_upc_ne _ _ h2, sf_up_ne _ _ _ h1], fun j hj => ?_, fun i hi => ?_, ?_, fun _ i hi => ?_⟩
    · unfold R_X3_weigh
      refine ⟨_, σ, hcode, ?_⟩
      rw [hQ.2.1, if_neg (nI_ge hcs (by omega))]
      intro t1 e1
      subst e1
      refine ⟨_, ?_, rfl⟩
      unfold R_X2_copyFrom
      intro t1 e1 t2 e2
      subst e1
      subst e2
      rfl
    · rw [sf_upc_ne _ _ (by decide), sf_upc_ne _ _ (by decide), sf_up_at, if_pos rfl, if_neg hj]
    · rw [sf_upc_ne _ _ (by decide), sf_upc_ne _ _ (by decide), sf_up_ne _ _ _ (by decide)]
      exact hQ.1 i hi
    · rw [sf_upc_ne _ _ (by decide), sf_upc_ne _ _ (by decide), sf_up_at, if_pos rfl, if_pos rfl]
    · have g1 := pN_getD hp hi
      show _ = nI (pre.getD i 0) ∧ sf_upc _ 31 _ 31 (pre.getD i 0) = nI i
      rw [sf_upc_eq, sf_upc_ne _ _ (show 30 ≠ 31 by decide), sf_upc_eq, pk_cpy_in (by omega) (by omega), pk_cpy_in (by omega) (by omega)]
      constructor
      · show σ 33 (0 + (i - 0)) = _
        rw [Nat.zero_add, Nat.sub_zero]
        exact hT.1 i hi
      · show σ 34 (0 + (pre.getD i 0 - 0)) = _
        rw [Nat.zero_add, Nat.sub_zero, (hT.2 _ g1).1]
        have hi' : i < pre.length := by rw [hp.2]; exact hi
        have e1 : pre.getD i 0 = pre[i] := by simp [List.getD_eq_getElem?_getD, List.getElem?_eq_getElem hi']
        unfold pd_num
        rw [e1, hp.1.1.idxOf_getElem i hi']
  · rw [if_neg hcs]
    refine ⟨σ, ?_, fun _ _ _ _ => rfl, fun _ _ => rfl, hQ⟩
    unfold R_X3_weigh
    refine ⟨_, σ, hcode, ?_⟩
    rw [hQ.2.1, if_pos (nI_le (by omega) (by omega))]
end CS2
