/-! what the relations answer: the drawing -/
theorem sf_up_at (σ : sf_St) (k i : Nat) (v : Int32) (k' j : Nat) : sf_up σ k i v k' j = if k' = k then (if j = i then v else σ k' j) else σ k' j := by
  unfold sf_up sf_upc upd
  by_cases h : k' = k
  · subst h; simp
  · simp [h]
theorem sp_ix {a : Nat} (h : a < 2 ^ 31) : sf_ix (nI a) = a := nI_clamp h
theorem sp_in {a n : Nat} (h : a < n) (hn : n < 2 ^ 31) : vp_in (nI a) n := vp_in_nI h hn
theorem sp_0 : (0 : Int32) = nI 0 := rfl
theorem sp_1 : (1 : Int32) = nI 1 := rfl
theorem sp_2 : (2 : Int32) = nI 2 := rfl
theorem sp_3 : (3 : Int32) = nI 3 := rfl
theorem sp_inc (a : Nat) : nI a + (1 : Int32) = nI (a + 1) := nI_1 a
theorem sp_val : ∀ e, e < 6 → sf_val (nI e) = nI (pd_v e) := by decide +kernel
/-- what the class's state shows of a drawing -/
def cD (d : pd_D) (σ : sf_St) : Prop := (σ 1 3 = nI (pd_n d) ∧ σ 1 8 = nI (pd_b d)) ∧ (∀ i, i < pd_n d → σ 2 i = nI (pd_e d i) ∧ σ 3 i = Int32.ofInt (pd_x d i) ∧ σ 4 i = Int32.ofInt (pd_y d i)) ∧
  (∀ k, k < pd_b d → σ 5 k = nI (pd_f d k) ∧ σ 6 k = nI (pd_s d k) ∧ σ 7 k = nI (pd_o d k) ∧ σ 8 k = nI (pd_m d k)) ∧ (∀ a c, a < 7 → c < 7 → σ (10 + a) c = nI (pd_lk d a c))
/-- what the reference's state shows of it -/
def mD (d : pd_D) (σ : sf_St) : Prop := (σ 0 0 = nI (pd_n d) ∧ σ 0 4 = nI (pd_b d)) ∧ (∀ i, i < pd_n d → σ 1 i = nI (pd_e d i) ∧ σ 2 i = Int32.ofInt (pd_x d i) ∧ σ 3 i = Int32.ofInt (pd_y d i)) ∧
  (∀ k, k < pd_b d → σ 4 k = nI (pd_f d k) ∧ σ 5 k = nI (pd_s d k) ∧ σ 6 k = nI (pd_o d k) ∧ σ 7 k = nI (pd_m d k))
section SP1
variable {d : pd_D} {σ : sf_St}
theorem pd_lk_le (h : pd_W d) (a b : Nat) : pd_lk d a b ≤ 9 := by
  unfold pd_lk
  cases hb : pd_bo d a b with
  | none => simp
  | some k => have := (pd_bo_some hb).1; have := h.1.2; simp; omega
theorem sp_orderOf (h : pd_W d) (hc : cD d σ) {a b : Nat} (ha : a < 7) (hb : b < 7) : R_X0_orderOf σ (nI a) (nI b) (nI (pd_or d a b)) σ := by
  unfold R_X0_orderOf
  refine ⟨sp_in ha (by decide), sp_in hb (by decide), fun y hy => ?_⟩
  rw [sp_ix (by omega), sp_ix (by omega), hc.2.2.2 a b ha hb] at hy
  subst hy
  unfold pd_or pd_og pd_lk
  cases hbo : pd_bo d a b with
  | none => simp [sp_0]
  | some k =>
    obtain ⟨h1, h2⟩ := pd_bo_some hbo
    have h9 := h.1.2
    dsimp only
    rw [if_neg (nI_ne0 (by omega) (by omega))]
    have e : nI (k + 1) - (1 : Int32) = nI k := nI_pred k
    rw [e]
    refine ⟨sp_in (by omega) (by decide), ?_, rfl⟩
    rw [sp_ix (by omega), (hc.2.2.1 k h1).2.2.1]
theorem sp_bondOf (hc : cD d σ) {a b : Nat} (ha : a < 7) (hb : b < 7) : R_X0_bondOf σ (nI a) (nI b) (nI (pd_lk d a b) - 1) σ := by
  unfold R_X0_bondOf
  refine ⟨sp_in ha (by decide), sp_in hb (by decide), ?_, rfl⟩
  rw [sp_ix (by omega), sp_ix (by omega), hc.2.2.2 a b ha hb]
theorem sp_areBonded (h : pd_W d) (hc : cD d σ) {a b : Nat} (ha : a < 7) (hb : b < 7) : R_X0_areBonded σ (nI a) (nI b) (if pd_lk d a b = 0 then 0 else 1) σ := by
  unfold R_X0_areBonded
  have hle := pd_lk_le h a b
  refine ⟨sp_in ha (by decide), sp_in hb (by decide), ?_⟩
  rw [sp_ix (by omega), sp_ix (by omega), hc.2.2.2 a b ha hb]
  by_cases h0 : pd_lk d a b = 0
  · simp [h0, sp_0]
  · have hn := nI_ne0 (n := pd_lk d a b) (by omega) (by omega)
    simp [h0, hn]
theorem pd_sum_mono (f : Nat → Nat) {k n : Nat} (h : k ≤ n) : pd_sum f k ≤ pd_sum f n := by
  induction n with
  | zero => have : k = 0 := by omega
            subst this; exact Nat.le_refl _
  | succ n ih =>
    by_cases hk : k = n + 1
    · subst hk; exact Nat.le_refl _
    · exact Nat.le_trans (ih (by omega)) (Nat.le_add_right _ _)
theorem pd_v_le : ∀ e, pd_v e ≤ 4 := by
  intro e
  by_cases h : e < 6
  · exact (by decide : ∀ e, e < 6 → pd_v e ≤ 4) e h
  · have : pd_v e = 0 := by
      unfold pd_v
      rw [List.getD_eq_getElem?_getD, List.getElem?_eq_none (by simp; omega)]
      rfl
    omega
theorem pd_or_le (h : pd_W d) {a : Nat} (ha : a < pd_n d) {k : Nat} (hk : k ≤ pd_n d) : pd_sum (fun b => pd_or d a b) k ≤ pd_v (pd_e d a) := by
  have h1 := pd_sum_mono (fun b => pd_or d a b) hk
  have h2 := pd_sum_or h a
  have h3 := h.2.2.2.2 a ha
  omega
theorem sp_freeValence_1 (h : pd_W d) (hc : cD d σ) {a : Nat} (ha : a < pd_n d) : ∀ m k, k + m = pd_n d → Rn_R_X0_freeValence 1 σ (nI a) (nI (pd_v (pd_e d a) - pd_sum (fun b => pd_or d a b) k)) (nI k) (nI (pd_lf d a)) σ := by
  have h7 := h.1.1
  intro m
  induction m with
  | zero =>
    intro k hk
    apply ru_R_X0_freeValence_1
    unfold tr_R_X0_freeValence_1
    rw [hc.1.1, if_pos (nI_le (by omega) (by omega))]
    refine ⟨?_, rfl⟩
    have : k = pd_n d := by omega
    rw [this, pd_sum_or h a]
    rfl
  | succ m ih =>
    intro k hk
    apply ru_R_X0_freeValence_1
    unfold tr_R_X0_freeValence_1
    rw [hc.1.1, if_neg (nI_ge (by omega) (by omega))]
    refine ⟨_, σ, sp_orderOf h hc (a := a) (b := k) (by omega) (by omega), fun y hy z hz => ?_⟩
    have hle := pd_or_le h ha (k := k + 1) (by omega)
    have hs : pd_sum (fun b => pd_or d a b) (k + 1) = pd_sum (fun b => pd_or d a b) k + pd_or d a k := rfl
    rw [pk_sub (by omega)] at hy
    rw [sp_inc] at hz
    subst hy; subst hz
    have := ih (k + 1) (by omega)
    rw [hs, Nat.sub_add_eq] at this
    exact this
theorem sp_freeValence (h : pd_W d) (hc : cD d σ) {a : Nat} (ha : a < pd_n d) : R_X0_freeValence σ (nI a) (nI (pd_lf d a)) σ := by
  have h7 := h.1.1
  unfold R_X0_freeValence
  apply ru_R_X0_freeValence_0
  unfold tr_R_X0_freeValence_0
  have he := (h.2.1 a ha).1
  rw [sp_ix (by omega), (hc.2.1 a ha).1]
  refine ⟨sp_in (by omega) (by decide), sp_in he (by decide), fun y hy => ?_⟩
  rw [sp_val _ he] at hy
  subst hy
  exact sp_freeValence_1 h hc ha (pd_n d) 0 (by omega)
end SP1
