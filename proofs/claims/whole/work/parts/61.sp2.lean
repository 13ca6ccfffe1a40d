/-! how many bonds an atom has beside one, and whether they are all single; centres and hinges -/
/-- the bonds at a beside bond x (none beside: x is no bond) -/
def pd_sc (d : pd_D) (a x : Nat) : Nat := pd_sum (fun k => if pd_inc d k a = true ∧ k ≠ x then 1 else 0) (pd_b d)
def pd_saN (d : pd_D) (a x : Nat) (m : Nat) : Prop := ∀ k, k < m → pd_inc d k a = true → k ≠ x → pd_o d k = 1
def pd_sa (d : pd_D) (a x : Nat) : Prop := pd_saN d a x (pd_b d)
def pd_saB (d : pd_D) (a x : Nat) (m : Nat) : Bool := (List.range m).all (fun k => !(pd_inc d k a) || k == x || pd_o d k == 1)
def pd_s1 (d : pd_D) (a x : Nat) : Int32 := if pd_saB d a x (pd_b d) = true then nI (pd_sc d a x) else -1
theorem pd_saB_iff (d : pd_D) (a x m : Nat) : pd_saB d a x m = true ↔ pd_saN d a x m := by
  unfold pd_saB pd_saN
  rw [List.all_eq_true]
  constructor
  · intro h k hk hi hx
    have := h k (List.mem_range.mpr hk)
    simp only [Bool.or_eq_true, Bool.not_eq_true', beq_iff_eq] at this
    rcases this with (h1 | h1) | h1
    · rw [hi] at h1; cases h1
    · exact absurd h1 hx
    · exact h1
  · intro h k hk
    simp only [Bool.or_eq_true, Bool.not_eq_true', beq_iff_eq]
    by_cases hi : pd_inc d k a = true
    · by_cases hx : k = x
      · exact Or.inl (Or.inr hx)
      · exact Or.inr (h k (List.mem_range.mp hk) hi hx)
    · exact Or.inl (Or.inl (by simpa using hi))
theorem pd_saB_succ (d : pd_D) (a x m : Nat) : pd_saB d a x (m + 1) = (pd_saB d a x m && (!(pd_inc d m a) || m == x || pd_o d m == 1)) := by
  unfold pd_saB
  rw [List.range_succ, List.all_append]
  simp
section SP2
variable {d : pd_D} {σ : sf_St}
theorem pd_sc_le (h : pd_W d) {a : Nat} (ha : a < pd_n d) (x m : Nat) (hm : m ≤ pd_b d) : pd_sum (fun k => if pd_inc d k a = true ∧ k ≠ x then 1 else 0) m ≤ 4 := by
  have h1 : ∀ m, m ≤ pd_b d → pd_sum (fun k => if pd_inc d k a = true ∧ k ≠ x then 1 else 0) m ≤ pd_sum (fun k => if pd_inc d k a = true then pd_o d k else 0) m := by
    intro m
    induction m with
    | zero => intro _; exact Nat.le_refl _
    | succ m ih =>
      intro hm
      have h2 := ih (by omega)
      have h3 := (h.2.2.1 m (by omega)).2.2.2.1
      simp only [pd_sum]
      by_cases hi : pd_inc d m a = true
      · by_cases hx : m = x
        · rw [if_neg (show ¬ (pd_inc d m a = true ∧ m ≠ x) from fun q => q.2 hx), if_pos hi]; omega
        · rw [if_pos (show pd_inc d m a = true ∧ m ≠ x from ⟨hi, hx⟩), if_pos hi]; omega
      · rw [if_neg (show ¬ (pd_inc d m a = true ∧ m ≠ x) from fun q => hi q.1), if_neg hi]; omega
  have h2 := h1 m hm
  have h3 := pd_sum_mono (fun k => if pd_inc d k a = true then pd_o d k else 0) hm
  have h4 := h.2.2.2.2 a ha
  have h5 := pd_v_le (pd_e d a)
  unfold pd_use at h4
  omega
/-- the reference's count -/
theorem sp_mSingles_1 (h : pd_W d) (hm : mD d σ) {a x : Nat} (ha : a < pd_n d) {but : Int32} (hb : ∀ k, k < pd_b d → (nI k = but ↔ k = x)) : ∀ m k, k + m = pd_b d →
    Rn_R_X7_singles 1 σ (nI a) but (nI (pd_sum (fun k => if pd_inc d k a = true ∧ k ≠ x then 1 else 0) k)) (if pd_saB d a x k = true then 1 else 0) (nI k) (pd_s1 d a x) σ := by
  have h9 := h.1.2
  have h7 := h.1.1
  intro m
  induction m with
  | zero =>
    intro k hk
    have hk' : k = pd_b d := by omega
    subst hk'
    apply ru_R_X7_singles_1
    unfold tr_R_X7_singles_1
    rw [hm.1.2, if_pos (nI_le (by omega) (by omega))]
    unfold pd_s1
    by_cases hs : pd_saB d a x (pd_b d) = true
    · rw [if_pos hs, if_pos hs, if_neg (by decide)]
      exact ⟨rfl, rfl⟩
    · rw [if_neg hs, if_neg hs, if_pos rfl]
      exact ⟨rfl, rfl⟩
  | succ m ih =>
    intro k hk
    have hkb : k < pd_b d := by omega
    obtain ⟨q1, q2, q3, q4⟩ := hm.2.2 k hkb
    obtain ⟨w1, w2, w3, w4, w5, w6⟩ := h.2.2.1 k hkb
    have hle := pd_sc_le h ha x k (by omega)
    have ih' := ih (k + 1) (by omega)
    have hsum : pd_sum (fun k => if pd_inc d k a = true ∧ k ≠ x then 1 else 0) (k + 1) = pd_sum (fun k => if pd_inc d k a = true ∧ k ≠ x then 1 else 0) k + (if pd_inc d k a = true ∧ k ≠ x then 1 else 0) := rfl
    rw [hsum, pd_saB_succ] at ih'
    apply ru_R_X7_singles_1
    unfold tr_R_X7_singles_1
    rw [hm.1.2, if_neg (nI_ge (by omega) (by omega))]
    rw [sp_ix (by omega), q1, q2, q3]
    have hin : vp_in (nI k) 9 := sp_in (by omega) (by decide)
    by_cases hx : k = x
    · rw [if_pos ((hb k hkb).mpr hx)]
      intro y hy
      rw [sp_inc] at hy; subst hy
      simpa [hx] using ih'
    · rw [if_neg (fun q => hx ((hb k hkb).mp q))]
      refine ⟨hin, ?_⟩
      have ef : (nI (pd_f d k) = nI a) = (pd_f d k = a) := propext (nI_eq (by omega) (by omega))
      have es : (nI (pd_s d k) = nI a) = (pd_s d k = a) := propext (nI_eq (by omega) (by omega))
      have eo : (nI (pd_o d k) = (1 : Int32)) = (pd_o d k = 1) := propext (nI_eq (a := pd_o d k) (b := 1) (by omega) (by decide))
      simp only [ef, es, eo, sp_inc, forall_eq]
      have hz : ((if pd_saB d a x k = true then (1 : Int32) else 0) = 0) = (¬ pd_saB d a x k = true) := by
        by_cases hs : pd_saB d a x k = true
        · simp [hs]
        · simp [hs]
      simp only [hz]
      by_cases hf : pd_f d k = a
      · have hi : pd_inc d k a = true := by simp [pd_inc, hf]
        rw [if_pos hf]
        simp only [hi, hx, ne_eq, not_false_eq_true, and_self, if_true, Bool.not_true, Bool.false_or] at ih'
        by_cases hs : pd_saB d a x k = true
        · rw [if_neg (fun q => q hs)]
          refine ⟨hin, ?_⟩
          by_cases ho : pd_o d k = 1
          · rw [if_pos ho]; simpa [hs, ho, hx] using ih'
          · rw [if_neg ho]; simpa [hs, ho, hx] using ih'
        · rw [if_pos hs]; simpa [hs, hx] using ih'
      · rw [if_neg hf]
        refine ⟨hin, ?_⟩
        by_cases hss : pd_s d k = a
        · have hi : pd_inc d k a = true := by simp [pd_inc, hss]
          rw [if_pos hss]
          simp only [hi, hx, ne_eq, not_false_eq_true, and_self, if_true, Bool.not_true, Bool.false_or] at ih'
          by_cases hs : pd_saB d a x k = true
          · rw [if_neg (fun q => q hs)]
            refine ⟨hin, ?_⟩
            by_cases ho : pd_o d k = 1
            · rw [if_pos ho]; simpa [hs, ho, hx] using ih'
            · rw [if_neg ho]; simpa [hs, ho, hx] using ih'
          · rw [if_pos hs]; simpa [hs, hx] using ih'
        · have hi : pd_inc d k a = false := by simp [pd_inc, hf, hss]
          rw [if_neg hss]
          simpa [hi] using ih'
theorem sp_mSingles (h : pd_W d) (hm : mD d σ) {a x : Nat} (ha : a < pd_n d) {but : Int32} (hb : ∀ k, k < pd_b d → (nI k = but ↔ k = x)) : R_X7_singles σ (nI a) but (pd_s1 d a x) σ := by
  unfold R_X7_singles
  apply ru_R_X7_singles_0
  unfold tr_R_X7_singles_0
  exact sp_mSingles_1 h hm ha hb (pd_b d) 0 (by omega)
theorem pd_j_uni (h : pd_W d) {k a b c : Nat} (hk : k < pd_b d) (h1 : pd_j d k a b = true) (h2 : pd_j d k a c = true) : b = c := by
  obtain ⟨-, -, hne, -⟩ := h.2.2.1 k hk
  simp only [pd_j, Bool.or_eq_true, Bool.and_eq_true, beq_iff_eq] at h1 h2
  rcases h1 with ⟨a1, a2⟩ | ⟨a1, a2⟩ <;> rcases h2 with ⟨b1, b2⟩ | ⟨b1, b2⟩
  · omega
  · omega
  · omega
  · omega
theorem pd_inc_other (h : pd_W d) {k a : Nat} (hk : k < pd_b d) (hi : pd_inc d k a = true) : ∃ b, b < pd_n d ∧ pd_j d k a b = true ∧ b ≠ a := by
  obtain ⟨h1, h2, hne, -⟩ := h.2.2.1 k hk
  simp only [pd_inc, Bool.or_eq_true, beq_iff_eq] at hi
  rcases hi with hi | hi
  · exact ⟨pd_s d k, h2, by simp [pd_j, hi], by omega⟩
  · exact ⟨pd_f d k, h1, by simp [pd_j, hi], by omega⟩
theorem pd_j_inc {k a b : Nat} (hj : pd_j d k a b = true) : pd_inc d k a = true := by
  simp only [pd_j, pd_inc, Bool.or_eq_true, Bool.and_eq_true, beq_iff_eq] at hj ⊢
  rcases hj with ⟨h, -⟩ | ⟨-, h⟩
  · exact Or.inl h
  · exact Or.inr h
/-- bonds beside x are the bonds to atoms beside ex -/
def pd_xe (d : pd_D) (a x ex : Nat) : Prop := ∀ b k, b < pd_n d → pd_bo d a b = some k → (k = x ↔ b = ex)
theorem pd_sx (h : pd_W d) {a x ex : Nat} (hx : pd_xe d a x ex) : pd_sum (fun b => if b = ex then 0 else pd_or d a b) (pd_n d) = pd_sum (fun k => if pd_inc d k a = true then (if k = x then 0 else pd_o d k) else 0) (pd_b d) := by
  rw [← pd_sum_og h (fun k => if k = x then 0 else pd_o d k) a]
  refine pd_sum_congr _ (fun b hb => ?_)
  unfold pd_or pd_og
  cases hbo : pd_bo d a b with
  | none => simp
  | some k =>
    have := hx b k hb hbo
    by_cases hk : k = x
    · simp [hk, this.mp hk]
    · have hb' : ¬ b = ex := fun q => hk (this.mpr q)
      simp [hk, hb']
theorem pd_sa_iff (h : pd_W d) {a x ex : Nat} (hx : pd_xe d a x ex) : pd_saB d a x (pd_b d) = true ↔ ∀ b, b < pd_n d → b ≠ ex → pd_or d a b ≤ 1 := by
  rw [pd_saB_iff]
  constructor
  · intro hs b hb hne
    unfold pd_or pd_og
    cases hbo : pd_bo d a b with
    | none => simp
    | some k =>
      obtain ⟨h1, h2⟩ := pd_bo_some hbo
      have := hs k h1 (pd_j_inc h2) (fun q => hne ((hx b k hb hbo).mp q))
      simp [this]
  · intro hs k hk hi hne
    obtain ⟨b, h1, h2, h3⟩ := pd_inc_other h hk hi
    have hbo := pd_bo_of h hk h2
    have := hs b h1 (fun q => hne ((hx b k h1 hbo).mpr q))
    unfold pd_or pd_og at this
    rw [hbo] at this
    have h4 := (h.2.2.1 k hk).2.2.2.1
    dsimp only at this
    omega
theorem pd_sc_eq (h : pd_W d) {a x ex : Nat} (hx : pd_xe d a x ex) (hs : pd_saB d a x (pd_b d) = true) : pd_sum (fun b => if b = ex then 0 else pd_or d a b) (pd_n d) = pd_sc d a x := by
  rw [pd_sx h hx]
  unfold pd_sc
  have hs' := (pd_saB_iff d a x (pd_b d)).mp hs
  refine pd_sum_congr _ (fun k hk => ?_)
  by_cases hi : pd_inc d k a = true
  · by_cases hkx : k = x
    · simp [hkx]
    · simp [hi, hkx, hs' k hk hi hkx]
  · simp [hi]
theorem sp_singleBonds_1 (h : pd_W d) (hc : cD d σ) {a x ex : Nat} (ha : a < pd_n d) {exI : Int32} (he : ∀ b, b < pd_n d → (nI b = exI ↔ b = ex)) (hx : pd_xe d a x ex) : ∀ m k, k + m = pd_n d → (∀ b, b < k → b ≠ ex → pd_or d a b ≤ 1) →
    Rn_R_X0_singleBonds 1 σ (nI a) exI (nI (pd_sum (fun b => if b = ex then 0 else pd_or d a b) k)) (nI k) (pd_s1 d a x) σ := by
  have h7 := h.1.1
  intro m
  induction m with
  | zero =>
    intro k hk hall
    have hk' : k = pd_n d := by omega
    subst hk'
    apply ru_R_X0_singleBonds_1
    unfold tr_R_X0_singleBonds_1
    rw [hc.1.1, if_pos (nI_le (by omega) (by omega))]
    have hs := (pd_sa_iff h hx).mpr hall
    refine ⟨?_, rfl⟩
    unfold pd_s1
    rw [if_pos hs, pd_sc_eq h hx hs]
  | succ m ih =>
    intro k hk hall
    have hkn : k < pd_n d := by omega
    have hsum : pd_sum (fun b => if b = ex then 0 else pd_or d a b) (k + 1) = pd_sum (fun b => if b = ex then 0 else pd_or d a b) k + (if k = ex then 0 else pd_or d a k) := rfl
    apply ru_R_X0_singleBonds_1
    unfold tr_R_X0_singleBonds_1
    rw [hc.1.1, if_neg (nI_ge (by omega) (by omega))]
    by_cases hke : k = ex
    · rw [if_pos ((he k hkn).mpr hke), if_pos (by decide)]
      intro y hy z hz
      rw [sp_inc] at hz
      have hy' : y = nI (pd_sum (fun b => if b = ex then 0 else pd_or d a b) k) := by rw [hy]; exact nI_add _ 0
      subst hy'; subst hz
      have := ih (k + 1) (by omega) (fun b hb hne => hall b (by omega) hne)
      rw [hsum, if_pos hke] at this
      exact this
    · rw [if_neg (fun q => hke ((he k hkn).mp q))]
      refine ⟨_, σ, sp_orderOf h hc (a := a) (b := k) (by omega) (by omega), ?_⟩
      have hor : pd_or d a k ≤ 3 := by
        unfold pd_or pd_og
        cases hbo : pd_bo d a k with
        | none => simp
        | some j => have := (h.2.2.1 j (pd_bo_some hbo).1).2.2.2.2.1; simpa using this
      by_cases h1 : pd_or d a k ≤ 1
      · rw [if_pos (show nI (pd_or d a k) ≤ (1 : Int32) from nI_le (a := pd_or d a k) (b := 1) h1 (by decide))]
        intro y hy z hz
        rw [sp_inc] at hz
        rw [nI_add] at hy
        subst hy; subst hz
        have := ih (k + 1) (by omega) (fun b hb hne => by
          by_cases hbk : b = k
          · subst hbk; exact h1
          · exact hall b (by omega) hne)
        rw [hsum, if_neg hke] at this
        exact this
      · rw [if_neg (show ¬ nI (pd_or d a k) ≤ (1 : Int32) from nI_ge (a := 1) (b := pd_or d a k) (by omega) (by omega))]
        refine ⟨?_, rfl⟩
        unfold pd_s1
        rw [if_neg]
        intro hs
        exact h1 ((pd_sa_iff h hx).mp hs k hkn hke)
theorem sp_singleBonds (h : pd_W d) (hc : cD d σ) {a x ex : Nat} (ha : a < pd_n d) {exI : Int32} (he : ∀ b, b < pd_n d → (nI b = exI ↔ b = ex)) (hx : pd_xe d a x ex) : R_X0_singleBonds σ (nI a) exI (pd_s1 d a x) σ := by
  unfold R_X0_singleBonds
  apply ru_R_X0_singleBonds_0
  unfold tr_R_X0_singleBonds_0
  exact sp_singleBonds_1 h hc ha he hx (pd_n d) 0 (by omega) (fun b hb => by omega)
/-- a centre; a hinge's end; a hinge -/
def pd_ce (d : pd_D) (a : Nat) : Bool := pd_e d a == 0 && pd_saB d a (pd_b d) (pd_b d) && decide (3 ≤ pd_sc d a (pd_b d))
def pd_he (d : pd_D) (a k : Nat) : Bool := decide (pd_e d a ≤ 1) && pd_saB d a k (pd_b d) && decide (1 ≤ pd_sc d a k) && decide (pd_sc d a k ≤ 2)
def pd_hi (d : pd_D) (k : Nat) : Bool := pd_o d k == 2 && pd_he d (pd_f d k) k && pd_he d (pd_s d k) k
theorem pd_xe_none (h : pd_W d) (a : Nat) : pd_xe d a (pd_b d) (pd_n d) := by
  intro b k hb hbo
  have := (pd_bo_some hbo).1
  constructor
  · intro q; omega
  · intro q; omega
theorem pd_xe_end (h : pd_W d) {k a c : Nat} (hk : k < pd_b d) (hj : pd_j d k a c = true) : pd_xe d a k c := by
  intro b j hb hbo
  obtain ⟨h1, h2⟩ := pd_bo_some hbo
  constructor
  · intro q; subst q; exact pd_j_uni h h1 h2 hj
  · intro q; subst q; exact h.2.2.2.1 j k a b h1 hk h2 hj
theorem sp_m1 {n : Nat} (h : n < 2 ^ 31) : ¬ nI n = (-1 : Int32) := by
  intro q
  have h1 := nI_toInt h
  rw [q] at h1
  have : (-1 : Int32).toInt = -1 := by decide
  omega
theorem pd_s1_cases (h : pd_W d) {a : Nat} (ha : a < pd_n d) (x : Nat) : (pd_saB d a x (pd_b d) = false ∧ pd_s1 d a x = -1) ∨ (pd_saB d a x (pd_b d) = true ∧ pd_s1 d a x = nI (pd_sc d a x) ∧ pd_sc d a x ≤ 4) := by
  unfold pd_s1
  cases hs : pd_saB d a x (pd_b d) with
  | false => left; simp
  | true => right; exact ⟨rfl, by simp, pd_sc_le h ha x (pd_b d) (Nat.le_refl _)⟩
theorem sp_isCentre (h : pd_W d) (hc : cD d σ) {a : Nat} (ha : a < pd_n d) : R_X0_isCentre σ (nI a) (if pd_ce d a = true then 1 else 0) σ := by
  have h7 := h.1.1
  have he := (h.2.1 a ha).1
  unfold R_X0_isCentre
  refine ⟨_, σ, sp_singleBonds h hc ha (x := pd_b d) (ex := pd_n d) (exI := -1) (fun b hb => ⟨fun q => absurd q (sp_m1 (by omega)), fun q => by omega⟩) (pd_xe_none h a), sp_in (by omega) (by decide), ?_⟩
  rw [sp_ix (by omega), (hc.2.1 a ha).1]
  unfold pd_ce
  by_cases h0 : pd_e d a = 0
  · rw [h0, if_pos (show nI 0 = (0 : Int32) from rfl)]
    rcases pd_s1_cases h ha (pd_b d) with ⟨hs, e⟩ | ⟨hs, e, hle⟩
    · rw [e, hs]; simp
    · rw [e, hs]
      have hh : pd_sc d a (pd_b d) = 0 ∨ pd_sc d a (pd_b d) = 1 ∨ pd_sc d a (pd_b d) = 2 ∨ pd_sc d a (pd_b d) = 3 ∨ pd_sc d a (pd_b d) = 4 := by omega
      rcases hh with q | q | q | q | q <;> rw [q] <;> simp <;> decide
  · have hn := nI_ne0 (n := pd_e d a) (by omega) (by omega)
    rw [if_neg hn]
    simp [h0]
theorem sp_mCentre (h : pd_W d) (hm : mD d σ) {a : Nat} (ha : a < pd_n d) : R_X7_isCentre σ (nI a) (if pd_ce d a = true then 1 else 0) σ := by
  have h7 := h.1.1
  have h9 := h.1.2
  have he := (h.2.1 a ha).1
  unfold R_X7_isCentre
  refine ⟨sp_in (by omega) (by decide), ?_⟩
  rw [sp_ix (by omega), (hm.2.1 a ha).1]
  unfold pd_ce
  by_cases h0 : pd_e d a = 0
  · rw [h0, if_pos (show nI 0 = (0 : Int32) from rfl)]
    refine ⟨_, σ, sp_mSingles h hm ha (x := pd_b d) (but := -1) (fun k hk => ⟨fun q => absurd q (sp_m1 (by omega)), fun q => by omega⟩), ?_⟩
    rcases pd_s1_cases h ha (pd_b d) with ⟨hs, e⟩ | ⟨hs, e, hle⟩
    · rw [e, hs]; simp
    · rw [e, hs]
      have hh : pd_sc d a (pd_b d) = 0 ∨ pd_sc d a (pd_b d) = 1 ∨ pd_sc d a (pd_b d) = 2 ∨ pd_sc d a (pd_b d) = 3 ∨ pd_sc d a (pd_b d) = 4 := by omega
      rcases hh with q | q | q | q | q <;> rw [q] <;> simp <;> decide
  · have hn := nI_ne0 (n := pd_e d a) (by omega) (by omega)
    rw [if_neg hn]
    simp [h0]
end SP2
