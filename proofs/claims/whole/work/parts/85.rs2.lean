/-! the reference: the next numbering -/
section RS2
variable {d : pd_D}
theorem pm_sw_len (p : List Nat) (i j : Nat) : (pm_sw p i j).length = p.length := by
  unfold pm_sw
  rw [List.length_set, List.length_set]
theorem pm_sw_at {p : List Nat} {i j : Nat} (hi : i < p.length) (hj : j < p.length) (k : Nat) : (pm_sw p i j).getD k 0 = if k = j then p.getD i 0 else if k = i then p.getD j 0 else p.getD k 0 := by
  unfold pm_sw
  rw [List.getD_eq_getElem?_getD, List.getElem?_set, List.length_set]
  by_cases h1 : k = j
  · subst h1
    rw [if_pos rfl, if_pos hj, if_pos rfl]
    rfl
  · rw [if_neg (fun q => h1 q.symm), if_neg h1, List.getElem?_set]
    by_cases h2 : k = i
    · subst h2
      rw [if_pos rfl, if_pos hi, if_pos rfl]
      rfl
    · rw [if_neg (fun q => h2 q.symm), if_neg h2, ← List.getD_eq_getElem?_getD]
theorem sp_swap (h7 : pd_n d ≤ 7) {p : List Nat} {σ : sf_St} (hl : p.length = pd_n d) (hA : mA d p σ) {i j : Nat} (hi : i < pd_n d) (hj : j < pd_n d) : ∃ τ, R_X7_swap σ (nI i) (nI j) τ ∧ (∀ c, c ≠ 8 → τ c = σ c) ∧ mA d (pm_sw p i j) τ := by
  refine ⟨sf_up (sf_up σ 8 i (nI (p.getD j 0))) 8 j (nI (p.getD i 0)), ?_, fun c hc => by rw [sf_up_ne _ _ _ hc, sf_up_ne _ _ _ hc], fun k hk => ?_⟩
  · unfold R_X7_swap
    simp only [forall_eq, sp_ix (show i < 2 ^ 31 by omega), sp_ix (show j < 2 ^ 31 by omega), hA i hi, hA j hj]
    exact ⟨sp_in (by omega) (by decide), sp_in (by omega) (by decide), sp_in (by omega) (by decide), sp_in (by omega) (by decide), by trivial⟩
  · rw [pm_sw_at (by omega) (by omega), sf_up_at, if_pos rfl]
    by_cases h1 : k = j
    · rw [if_pos h1, if_pos h1]
    · rw [if_neg h1, if_neg h1, sf_up_at, if_pos rfl]
      by_cases h2 : k = i
      · rw [if_pos h2, if_pos h2]
      · rw [if_neg h2, if_neg h2]
        exact hA k hk
theorem sp_next_3 (h7 : pd_n d ≤ 7) {i : Nat} (hi : i < pd_n d) (u1 : Int32) : ∀ f k (p : List Nat) (σ : sf_St), σ 0 0 = nI (pd_n d) → p.length = pd_n d → mA d p σ → pd_n d ≤ f + k → 1 ≤ k → k ≤ pd_n d →
    ∃ τ, Rn_R_X7_nextOrder 3 σ (nI i) u1 (nI k) 1 τ ∧ (∀ c, c ≠ 8 → τ c = σ c) ∧ mA d (pm_rv (pd_n d) i f k p) τ := by
  intro f
  induction f with
  | zero =>
    intro k p σ h0 hl hA hf hk1 hkn
    refine ⟨σ, ?_, fun _ _ => rfl, hA⟩
    apply ru_R_X7_nextOrder_3
    unfold tr_R_X7_nextOrder_3
    rw [h0, pk_sub hkn, nI_add, if_pos (nI_le (by omega) (by omega))]
    exact ⟨rfl, rfl⟩
  | succ f ih =>
    intro k p σ h0 hl hA hf hk1 hkn
    by_cases hlt : i + k < pd_n d - k
    · have e : pm_rv (pd_n d) i (f + 1) k p = pm_rv (pd_n d) i f (k + 1) (pm_sw p (i + k) (pd_n d - k)) := if_pos hlt
      rw [e]
      obtain ⟨σ1, s1, s2, s3⟩ := sp_swap h7 hl hA (i := i + k) (j := pd_n d - k) (by omega) (by omega)
      obtain ⟨τ, t1, t2, t3⟩ := ih (k + 1) _ σ1 (by rw [s2 0 (by decide)]; exact h0) (by rw [pm_sw_len]; exact hl) s3 (by omega) (by omega) (by omega)
      refine ⟨τ, ?_, fun c hc => (t2 c hc).trans (s2 c hc), t3⟩
      apply ru_R_X7_nextOrder_3
      unfold tr_R_X7_nextOrder_3
      rw [h0, pk_sub hkn, nI_add, if_neg (nI_ge hlt (by omega))]
      refine ⟨σ1, s1, ?_⟩
      intro y hy
      rw [sp_inc] at hy
      subst hy
      exact t1
    · have e : pm_rv (pd_n d) i (f + 1) k p = p := if_neg hlt
      rw [e]
      refine ⟨σ, ?_, fun _ _ => rfl, hA⟩
      apply ru_R_X7_nextOrder_3
      unfold tr_R_X7_nextOrder_3
      rw [h0, pk_sub hkn, nI_add, if_pos (nI_le (by omega) (by omega))]
      exact ⟨rfl, rfl⟩
theorem sp_next_2 (h7 : pd_n d ≤ 7) {p : List Nat} {σ : sf_St} (h0 : σ 0 0 = nI (pd_n d)) (hl : p.length = pd_n d) (hA : mA d p σ) (hb : ∀ i, p.getD i 0 < 8) {i : Nat} (hi : i + 1 < pd_n d) (hx : ¬ p.getD (i + 1) 0 < p.getD i 0) : ∀ j, i + 1 ≤ j → j < pd_n d →
    ∃ τ, Rn_R_X7_nextOrder 2 σ (nI i) (nI j) 0 1 τ ∧ (∀ c, c ≠ 8 → τ c = σ c) ∧ mA d (pm_rv (pd_n d) i (pd_n d) 1 (pm_sw p i (pm_fj p (p.getD i 0) j))) τ := by
  intro j
  induction j with
  | zero => intro h; omega
  | succ j ih =>
    intro hij hjn
    have b1 := hb i
    have b2 := hb (j + 1)
    have e : pm_fj p (p.getD i 0) (j + 1) = if p.getD (j + 1) 0 < p.getD i 0 then pm_fj p (p.getD i 0) j else j + 1 := rfl
    by_cases hlt : p.getD (j + 1) 0 < p.getD i 0
    · have hne : j ≠ i := fun q => by subst q; exact hx hlt
      rw [e, if_pos hlt]
      obtain ⟨τ, t1, t2, t3⟩ := ih (by omega) (by omega)
      refine ⟨τ, ?_, t2, t3⟩
      apply ru_R_X7_nextOrder_2
      unfold tr_R_X7_nextOrder_2
      rw [sp_ix (by omega), sp_ix (by omega), hA i (by omega), hA (j + 1) hjn, if_neg (nI_ge hlt (by omega))]
      refine ⟨sp_in (by omega) (by decide), sp_in (by omega) (by decide), ?_⟩
      intro y hy
      rw [pk_m1] at hy
      subst hy
      exact t1
    · rw [e, if_neg hlt]
      obtain ⟨σ1, s1, s2, s3⟩ := sp_swap h7 hl hA (i := i) (j := j + 1) (by omega) hjn
      obtain ⟨τ, t1, t2, t3⟩ := sp_next_3 h7 (show i < pd_n d by omega) (nI (j + 1)) (pd_n d) 1 _ σ1 (by rw [s2 0 (by decide)]; exact h0) (by rw [pm_sw_len]; exact hl) s3 (by omega) (by omega) (by omega)
      refine ⟨τ, ?_, fun c hc => (t2 c hc).trans (s2 c hc), t3⟩
      apply ru_R_X7_nextOrder_2
      unfold tr_R_X7_nextOrder_2
      rw [sp_ix (by omega), sp_ix (by omega), hA i (by omega), hA (j + 1) hjn, if_pos (nI_le (by omega) (by omega))]
      exact ⟨sp_in (by omega) (by decide), sp_in (by omega) (by decide), σ1, s1, t1⟩
theorem sp_next_1 (h7 : pd_n d ≤ 7) {p : List Nat} {σ : sf_St} (h0 : σ 0 0 = nI (pd_n d)) (hl : p.length = pd_n d) (hA : mA d p σ) (hb : ∀ i, p.getD i 0 < 8) : ∀ m, m + 1 ≤ pd_n d →
    ∃ r τ, Rn_R_X7_nextOrder 1 σ (nI m - 1) 0 0 r τ ∧ (∀ c, c ≠ 8 → τ c = σ c) ∧ (match pm_fi p m with | none => r = 0 | some i => r = 1 ∧ mA d (pm_rv (pd_n d) i (pd_n d) 1 (pm_sw p i (pm_fj p (p.getD i 0) (pd_n d - 1)))) τ) := by
  intro m
  induction m with
  | zero =>
    intro _
    refine ⟨0, σ, ?_, fun _ _ => rfl, rfl⟩
    apply ru_R_X7_nextOrder_1
    unfold tr_R_X7_nextOrder_1
    rw [if_pos (by decide), if_neg (by decide)]
    exact ⟨rfl, rfl⟩
  | succ m ih =>
    intro hm
    have b1 := hb m
    have b2 := hb (m + 1)
    have e : pm_fi p (m + 1) = if p.getD (m + 1) 0 < p.getD m 0 then pm_fi p m else some m := rfl
    by_cases hlt : p.getD (m + 1) 0 < p.getD m 0
    · rw [e, if_pos hlt]
      obtain ⟨r, τ, t1, t2, t3⟩ := ih (by omega)
      refine ⟨r, τ, ?_, t2, t3⟩
      apply ru_R_X7_nextOrder_1
      unfold tr_R_X7_nextOrder_1
      rw [nI_pred, if_neg (nI_pos (by omega)), sp_inc, sp_ix (by omega), sp_ix (by omega), hA m (by omega), hA (m + 1) (by omega), if_neg (nI_ge hlt (by omega))]
      refine ⟨sp_in (by omega) (by decide), sp_in (by omega) (by decide), ?_⟩
      intro y hy
      have eM : nI m + (-1 : Int32) = nI m - 1 := (Int32.sub_eq_add_neg _ _).symm
      rw [eM] at hy
      subst hy
      exact t1
    · rw [e, if_neg hlt]
      obtain ⟨τ, t1, t2, t3⟩ := sp_next_2 h7 h0 hl hA hb (i := m) (by omega) hlt (pd_n d - 1) (by omega) (by omega)
      refine ⟨1, τ, ?_, t2, rfl, t3⟩
      apply ru_R_X7_nextOrder_1
      unfold tr_R_X7_nextOrder_1
      rw [nI_pred, if_neg (nI_pos (by omega)), sp_inc, sp_ix (by omega), sp_ix (by omega), hA m (by omega), hA (m + 1) (by omega), if_pos (nI_le (by omega) (by omega)), if_pos (nI_pos' (by omega))]
      refine ⟨sp_in (by omega) (by decide), sp_in (by omega) (by decide), ?_⟩
      intro y hy
      have e1 : nI (pd_n d) - (1 : Int32) = nI (pd_n d - 1) := pk_sub (b := 1) (by omega)
      rw [h0, e1] at hy
      subst hy
      exact t1
theorem sp_next (h7 : pd_n d ≤ 7) (hn : 1 ≤ pd_n d) {p : List Nat} {σ : sf_St} (h0 : σ 0 0 = nI (pd_n d)) (hl : p.length = pd_n d) (hA : mA d p σ) (hb : ∀ i, p.getD i 0 < 8) :
    ∃ r τ, R_X7_nextOrder σ r τ ∧ (∀ c, c ≠ 8 → τ c = σ c) ∧ (match pm_nx (pd_n d) p with | none => r = 0 | some q => r = 1 ∧ mA d q τ) := by
  obtain ⟨r, τ, t1, t2, t3⟩ := sp_next_1 h7 h0 hl hA hb (pd_n d - 1) (by omega)
  refine ⟨r, τ, ?_, t2, ?_⟩
  · unfold R_X7_nextOrder
    apply ru_R_X7_nextOrder_0
    unfold tr_R_X7_nextOrder_0
    intro y hy
    have e1 : nI (pd_n d) - (2 : Int32) = nI (pd_n d - 1) - 1 := by
      have e2 : nI (pd_n d - 1) = nI (pd_n d) - 1 := (pk_sub (b := 1) (by omega)).symm
      rw [e2, Int32.sub_eq_add_neg, Int32.sub_eq_add_neg, Int32.sub_eq_add_neg, Int32.add_assoc]
      rfl
    rw [h0, e1] at hy
    subst hy
    exact t1
  · unfold pm_nx
    cases hf : pm_fi p (pd_n d - 1) with
    | none => rw [hf] at t3; exact t3
    | some i => rw [hf] at t3; exact t3
end RS2
