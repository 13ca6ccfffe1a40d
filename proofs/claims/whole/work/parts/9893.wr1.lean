/-! the text: what is written of a numbering, and how long it is at most -/
def tx_e (e : Nat) : List Nat := if e = 0 then [67] else if e = 1 then [78] else if e = 2 then [79] else if e = 3 then [70] else if e = 4 then [67, 108] else [83]
def tx_s (s : Int) : List Nat := if s = 0 then [] else if s < 0 then [64] else [64, 64]
def tx_b (j o : Nat) (s : Int) : List Nat := if o = 2 then (if s = 0 then [40, 48 + j, 61, 41] else if s < 0 then [40, 48 + j, 61, 116, 41] else [40, 48 + j, 61, 99, 41]) else if o = 3 then [40, 48 + j, 35, 41] else [40, 48 + j, 41]
theorem tx_e_len (e : Nat) : (tx_e e).length ≤ 2 := by
  unfold tx_e
  repeat' split
  all_goals decide
theorem tx_s_len (s : Int) : (tx_s s).length ≤ 2 := by
  unfold tx_s
  repeat' split
  all_goals decide
theorem tx_b_len (j o : Nat) (s : Int) : (tx_b j o s).length ≤ 5 := by
  unfold tx_b
  repeat' split
  all_goals simp
def pd_ta (d : pd_D) (π : List Nat) (a : Nat) : Int := pd_cs d a * pd_os d (pd_num π) a (pd_n d)
def pd_tb (d : pd_D) (π : List Nat) (k : Nat) : Int := pd_hs d k * pd_os d (pd_num π) (pd_f d k) (pd_s d k) * pd_os d (pd_num π) (pd_s d k) (pd_f d k)
def tx_1 (d : pd_D) (π : List Nat) (i j : Nat) : List Nat := match pd_bo d (π.getD i 0) (π.getD j 0) with
  | some k => tx_b j (pd_o d k) (pd_tb d π k)
  | none => []
def tx_J (d : pd_D) (π : List Nat) (i : Nat) : Nat → List Nat
  | 0 => []
  | j + 1 => tx_J d π i j ++ tx_1 d π i j
def tx_H (d : pd_D) (π : List Nat) : Nat → List Nat
  | 0 => []
  | i + 1 => tx_H d π i ++ tx_e (pd_e d (π.getD i 0)) ++ tx_s (pd_ta d π (π.getD i 0)) ++ tx_J d π i i ++ [59]
def bl_J (d : pd_D) (π : List Nat) (i : Nat) : Nat → List Nat
  | 0 => []
  | j + 1 => bl_J d π i j ++ (pd_bo d (π.getD i 0) (π.getD j 0)).toList
def bl_H (d : pd_D) (π : List Nat) : Nat → List Nat
  | 0 => []
  | i + 1 => bl_H d π i ++ bl_J d π i i
section WR1
variable {d : pd_D} {π : List Nat}
theorem tx_J_len (i : Nat) : ∀ j, (tx_J d π i j).length ≤ 5 * (bl_J d π i j).length := by
  intro j
  induction j with
  | zero => exact Nat.le_refl _
  | succ j ih =>
    unfold tx_J bl_J
    rw [List.length_append, List.length_append]
    have : (tx_1 d π i j).length ≤ 5 * ((pd_bo d (π.getD i 0) (π.getD j 0)).toList).length := by
      unfold tx_1
      cases pd_bo d (π.getD i 0) (π.getD j 0) with
      | none => exact Nat.le_refl _
      | some k => exact tx_b_len _ _ _
    omega
theorem tx_H_len : ∀ i, (tx_H d π i).length ≤ 5 * i + 5 * (bl_H d π i).length := by
  intro i
  induction i with
  | zero => exact Nat.le_refl _
  | succ i ih =>
    have h1 := tx_e_len (pd_e d (π.getD i 0))
    have h2 := tx_s_len (pd_ta d π (π.getD i 0))
    have h3 := tx_J_len (d := d) (π := π) i i
    unfold tx_H bl_H
    rw [List.length_append, List.length_append, List.length_append, List.length_append, List.length_append, List.length_singleton]
    omega
theorem pN_num (hp : pN d π) {i : Nat} (hi : i < pd_n d) : pd_num π (π.getD i 0) = i := by
  have hi' : i < π.length := by rw [hp.2]; exact hi
  have e : π.getD i 0 = π[i] := by simp [List.getD_eq_getElem?_getD, List.getElem?_eq_getElem hi']
  rw [e]
  exact hp.1.1.idxOf_getElem i hi'
theorem pN_gi (hp : pN d π) {i j : Nat} (hi : i < pd_n d) (hj : j < pd_n d) (e : π.getD i 0 = π.getD j 0) : i = j := by
  rw [← pN_num hp hi, ← pN_num hp hj, e]
def bl_ok (d : pd_D) (π : List Nat) (i j : Nat) : Prop := (bl_H d π i ++ bl_J d π i j).Nodup ∧ ∀ k ∈ bl_H d π i ++ bl_J d π i j, ∃ i' j', j' < i' ∧ i' < pd_n d ∧ (i' < i ∨ (i' = i ∧ j' < j)) ∧ pd_bo d (π.getD i' 0) (π.getD j' 0) = some k
theorem bl_step (hp : pN d π) {i j : Nat} (hi : i < pd_n d) (hj : j < i) (h : bl_ok d π i j) : bl_ok d π i (j + 1) := by
  unfold bl_ok bl_J
  cases hb : pd_bo d (π.getD i 0) (π.getD j 0) with
  | none =>
    have e : bl_J d π i j ++ (none : Option Nat).toList = bl_J d π i j := List.append_nil _
    rw [e]
    refine ⟨h.1, fun k hk => ?_⟩
    obtain ⟨i', j', h1, h2, h3, h4⟩ := h.2 k hk
    exact ⟨i', j', h1, h2, by omega, h4⟩
  | some k =>
    have e : bl_H d π i ++ (bl_J d π i j ++ (some k).toList) = (bl_H d π i ++ bl_J d π i j) ++ [k] := (List.append_assoc _ _ _).symm
    rw [e]
    constructor
    · rw [List.nodup_append]
      refine ⟨h.1, by simp, ?_⟩
      intro a ha b hb'
      rw [List.mem_singleton] at hb'
      subst hb'
      intro e
      subst e
      obtain ⟨i', j', h1, h2, h3, h4⟩ := h.2 a ha
      have g1 := (pd_j_inc3 (pd_bo_some hb).2).2.2
      have g2 := (pd_j_inc3 (pd_bo_some h4).2).2.2
      have hq : (π.getD i 0 = π.getD i' 0 ∧ π.getD j 0 = π.getD j' 0) ∨ (π.getD i 0 = π.getD j' 0 ∧ π.getD j 0 = π.getD i' 0) := by omega
      rcases hq with ⟨q1, q2⟩ | ⟨q1, q2⟩
      · have e1 := pN_gi hp hi h2 q1
        have e2 := pN_gi hp (by omega) (by omega) q2
        omega
      · have e1 := pN_gi hp hi (by omega) q1
        have e2 := pN_gi hp (by omega) h2 q2
        omega
    · intro k' hk'
      rcases List.mem_append.mp hk' with hk' | hk'
      · obtain ⟨i', j', h1, h2, h3, h4⟩ := h.2 k' hk'
        exact ⟨i', j', h1, h2, by omega, h4⟩
      · rw [List.mem_singleton] at hk'
        subst hk'
        exact ⟨i, j, hj, hi, by omega, hb⟩
theorem bl_all (hp : pN d π) : ∀ i, i ≤ pd_n d → ∀ j, j ≤ i → (i < pd_n d ∨ j = 0) → bl_ok d π i j := by
  intro i
  induction i with
  | zero =>
    intro _ j hj _
    have : j = 0 := by omega
    subst this
    exact ⟨List.nodup_nil, fun k hk => by cases hk⟩
  | succ i ih =>
    intro hi j
    induction j with
    | zero =>
      intro _ _
      have h := ih (by omega) i (Nat.le_refl _) (Or.inl (by omega))
      unfold bl_ok
      have e : bl_H d π (i + 1) ++ bl_J d π (i + 1) 0 = bl_H d π i ++ bl_J d π i i := List.append_nil _
      rw [e]
      refine ⟨h.1, fun k hk => ?_⟩
      obtain ⟨i', j', h1, h2, h3, h4⟩ := h.2 k hk
      exact ⟨i', j', h1, h2, by omega, h4⟩
    | succ j ihj =>
      intro hj hn
      exact bl_step hp (by omega) (by omega) (ihj (by omega) (by omega))
theorem bl_len (hp : pN d π) {i j : Nat} (hi : i ≤ pd_n d) (hj : j ≤ i) (hn : i < pd_n d ∨ j = 0) : (bl_H d π i).length + (bl_J d π i j).length ≤ pd_b d := by
  have h := bl_all hp i hi j hj hn
  have := pm_subset_len _ (List.range (pd_b d)) h.1 (fun k hk => by
    obtain ⟨i', j', -, -, -, h4⟩ := h.2 k hk
    exact List.mem_range.mpr (pd_bo_some h4).1)
  rwa [List.length_append, List.length_range] at this
end WR1
/-! letters are added -/
def cTx (L : List Nat) (σ : sf_St) : Prop := σ 43 1 = nI L.length ∧ ∀ i, i < L.length → σ 44 i = nI (L.getD i 0)
def mTx (L : List Nat) (σ : sf_St) : Prop := σ 0 19 = nI L.length ∧ ∀ i, i < L.length → σ 13 i = nI (L.getD i 0)
def wf (σ τ : sf_St) : Prop := ∀ x, x ≠ 43 → x ≠ 44 → τ x = σ x
def mwf (σ τ : sf_St) : Prop := (∀ x, x ≠ 0 → x ≠ 13 → x ≠ 14 → τ x = σ x) ∧ ∀ j, j ≠ 19 → τ 0 j = σ 0 j
theorem wf_t {σ τ υ : sf_St} (h1 : wf σ τ) (h2 : wf τ υ) : wf σ υ := fun x q1 q2 => (h2 x q1 q2).trans (h1 x q1 q2)
theorem mwf_t {σ τ υ : sf_St} (h1 : mwf σ τ) (h2 : mwf τ υ) : mwf σ υ := ⟨fun x q1 q2 q3 => (h2.1 x q1 q2 q3).trans (h1.1 x q1 q2 q3), fun j hj => (h2.2 j hj).trans (h1.2 j hj)⟩
theorem mwf_r (σ : sf_St) : mwf σ σ := ⟨fun _ _ _ _ => rfl, fun _ _ => rfl⟩
theorem mD_w {d : pd_D} {σ τ : sf_St} (hm : mD d σ) (h : mwf σ τ) : mD d τ := mD_fr hm ⟨h.2 0 (by decide), h.2 4 (by decide)⟩ (fun c h1 h2 => h.1 c (by omega) (by omega) (by omega))
theorem mN_w {d : pd_D} {π : List Nat} {σ τ : sf_St} (hN : mN d π σ) (h : mwf σ τ) : mN d π τ := mN_fr hN (h.1 8 (by decide) (by decide) (by decide)) (h.1 9 (by decide) (by decide) (by decide))
theorem ls_snoc_at (L : List Nat) (c : Nat) {i : Nat} (hi : i < (L ++ [c]).length) : (L ++ [c]).getD i 0 = if i = L.length then c else L.getD i 0 := by
  rw [List.length_append, List.length_singleton] at hi
  by_cases q : i = L.length
  · subst q
    rw [if_pos rfl]
    simp [List.getD_eq_getElem?_getD]
  · rw [if_neg q]
    simp [List.getD_eq_getElem?_getD, List.getElem?_append_left (show i < L.length by omega)]
theorem sp_char : ∀ c, c < 128 → vp_nar .char (nI c) = nI c := by decide +kernel
theorem sp_add {L : List Nat} {σ : sf_St} (hT : cTx L σ) (hl : L.length < 80) {c : Nat} (hc : c < 128) : ∃ τ, R_X5_add σ (nI c) τ ∧ cTx (L ++ [c]) τ ∧ wf σ τ := by
  refine ⟨sf_up (sf_up σ 44 L.length (nI c)) 43 1 (nI (L.length + 1)), ?_, ⟨?_, fun i hi => ?_⟩, fun x q1 q2 => by rw [sf_up_ne _ _ _ q1, sf_up_ne _ _ _ q2]⟩
  · unfold R_X5_add
    have e80 : ¬ (80 : Int32) ≤ nI L.length := nI_ge (b := 80) hl (by decide)
    rw [hT.1, if_neg e80, sp_ix (by omega), sp_char c hc]
    refine ⟨sp_in hl (by decide), ?_⟩
    intro s hs t ht
    rw [hs, sf_up_ne _ _ _ (by decide : (43 : Nat) ≠ 44), hT.1, sp_inc] at ht
    exact ht.symm
  · rw [sf_up_at, if_pos rfl, if_pos rfl, List.length_append, List.length_singleton]
  · rw [ls_snoc_at L c hi, sf_up_ne _ _ _ (by decide), sf_up_at, if_pos rfl]
    rw [List.length_append, List.length_singleton] at hi
    by_cases q : i = L.length
    · rw [if_pos q, if_pos q]
    · rw [if_neg q, if_neg q]; exact hT.2 i (by omega)
theorem sp_put {L : List Nat} {σ : sf_St} (hT : mTx L σ) (hl : L.length < 128) (c : Nat) : ∃ τ, R_X7_put σ (nI c) τ ∧ mTx (L ++ [c]) τ ∧ mwf σ τ := by
  refine ⟨sf_up (sf_up σ 13 L.length (nI c)) 0 19 (nI (L.length + 1)), ?_, ⟨?_, fun i hi => ?_⟩, fun x q1 q2 _ => by rw [sf_up_ne _ _ _ q1, sf_up_ne _ _ _ q2], fun j hj => by rw [sf_up_at, if_pos rfl, if_neg hj, sf_up_ne _ _ _ (by decide)]⟩
  · unfold R_X7_put
    rw [hT.1, sp_ix (by omega)]
    refine ⟨sp_in hl (by decide), ?_⟩
    intro s hs t ht
    rw [hs, sf_up_ne _ _ _ (by decide : (0 : Nat) ≠ 13), hT.1, sp_inc] at ht
    exact ht.symm
  · rw [sf_up_at, if_pos rfl, if_pos rfl, List.length_append, List.length_singleton]
  · rw [ls_snoc_at L c hi, sf_up_ne _ _ _ (by decide), sf_up_at, if_pos rfl]
    rw [List.length_append, List.length_singleton] at hi
    by_cases q : i = L.length
    · rw [if_pos q, if_pos q]
    · rw [if_neg q, if_neg q]; exact hT.2 i (by omega)
