section SP3
variable {d : pd_D} {σ : sf_St}
theorem sp_isHingeEnd (h : pd_W d) (hc : cD d σ) {a c k : Nat} (ha : a < pd_n d) (hcn : c < pd_n d) (hk : k < pd_b d) (hj : pd_j d k a c = true) : R_X0_isHingeEnd σ (nI a) (nI c) (if pd_he d a k = true then 1 else 0) σ := by
  have h7 := h.1.1
  have he := (h.2.1 a ha).1
  unfold R_X0_isHingeEnd
  refine ⟨_, σ, sp_singleBonds h hc ha (x := k) (ex := c) (exI := nI c) (fun b hb => nI_eq (by omega) (by omega)) (pd_xe_end h hk hj), sp_in (by omega) (by decide), ?_⟩
  have hin : vp_in (nI a) 7 := sp_in (by omega) (by decide)
  rw [sp_ix (by omega), (hc.2.1 a ha).1]
  unfold pd_he
  simp (disch := omega) only [sq_eq0, sq_eq1]
  rcases pd_s1_cases h ha k with ⟨hs, e⟩ | ⟨hs, e, hle⟩
  · rw [e, hs]
    by_cases h0 : pd_e d a = 0
    · simp [h0]
    · by_cases h1 : pd_e d a = 1
      · simp [h1, hin]
      · simp [h0, h1, hin]
  · rw [e, hs]
    simp (disch := omega) only [sq_eq1, sq_eq2]
    by_cases h0 : pd_e d a = 0
    · by_cases g1 : pd_sc d a k = 1
      · simp [h0, g1]
      · by_cases g2 : pd_sc d a k = 2
        · simp [h0, g2]
        · have : ¬ (1 ≤ pd_sc d a k ∧ pd_sc d a k ≤ 2) := by omega
          simp [h0, g1, g2]; omega
    · by_cases h1 : pd_e d a = 1
      · by_cases g1 : pd_sc d a k = 1
        · simp [h1, g1, hin]
        · by_cases g2 : pd_sc d a k = 2
          · simp [h1, g2, hin]
          · simp [h1, g1, g2, hin]; omega
      · have : ¬ pd_e d a ≤ 1 := by omega
        simp [h0, h1, this, hin]
theorem pd_j_fs (d : pd_D) (k : Nat) : pd_j d k (pd_f d k) (pd_s d k) = true ∧ pd_j d k (pd_s d k) (pd_f d k) = true := by simp [pd_j]
theorem sp_isHinge (h : pd_W d) (hc : cD d σ) {k : Nat} (hk : k < pd_b d) : R_X0_isHinge σ (nI k) (if pd_hi d k = true then 1 else 0) σ := by
  have h9 := h.1.2
  have h7 := h.1.1
  obtain ⟨w1, w2, w3, w4, w5, w6⟩ := h.2.2.1 k hk
  obtain ⟨q1, q2, q3, q4⟩ := hc.2.2.1 k hk
  have hin : vp_in (nI k) 9 := sp_in (by omega) (by decide)
  unfold R_X0_isHinge
  rw [sp_ix (by omega), q3, q1, q2]
  simp (disch := omega) only [sq_eq2]
  unfold pd_hi
  refine ⟨hin, ?_⟩
  by_cases ho : pd_o d k = 2
  · rw [if_pos ho]
    refine ⟨hin, hin, _, σ, sp_isHingeEnd h hc w1 w2 hk (pd_j_fs d k).1, ?_⟩
    by_cases g1 : pd_he d (pd_f d k) k = true
    · rw [if_pos g1, if_neg (by decide)]
      rw [q1, q2]
      refine ⟨hin, hin, _, σ, sp_isHingeEnd h hc w2 w1 hk (pd_j_fs d k).2, ?_⟩
      by_cases g2 : pd_he d (pd_s d k) k = true
      · simp [ho, g1, g2]
      · simp [ho, g1, g2]
    · simp [g1]
  · simp [ho]
theorem sp_mHinge (h : pd_W d) (hm : mD d σ) {k : Nat} (hk : k < pd_b d) : R_X7_isHinge σ (nI k) (if pd_hi d k = true then 1 else 0) σ := by
  have h9 := h.1.2
  have h7 := h.1.1
  obtain ⟨w1, w2, w3, w4, w5, w6⟩ := h.2.2.1 k hk
  obtain ⟨q1, q2, q3, q4⟩ := hm.2.2 k hk
  have hin : vp_in (nI k) 9 := sp_in (by omega) (by decide)
  have hif : vp_in (nI (pd_f d k)) 7 := sp_in (by omega) (by decide)
  have his : vp_in (nI (pd_s d k)) 7 := sp_in (by omega) (by decide)
  have e1 := (h.2.1 _ w1).1
  have e2 := (h.2.1 _ w2).1
  have s1 := sp_mSingles h hm w1 (x := k) (but := nI k) (fun j hj => nI_eq (by omega) (by omega))
  have s2 := sp_mSingles h hm w2 (x := k) (but := nI k) (fun j hj => nI_eq (by omega) (by omega))
  have c1 := pd_s1_cases h w1 k
  have c2 := pd_s1_cases h w2 k
  have r1 : pd_he d (pd_f d k) k = true → pd_e d (pd_f d k) ≤ 1 := by simp [pd_he]; omega
  have r2 : pd_he d (pd_s d k) k = true → pd_e d (pd_s d k) ≤ 1 := by simp [pd_he]; omega
  unfold R_X7_isHinge
  rw [sp_ix (by omega), q1, q2, sp_ix (by omega), sp_ix (by omega), (hm.2.1 _ w1).1, (hm.2.1 _ w2).1]
  simp (disch := omega) only [sq_1lt]
  have tail : ∀ (P : Prop) (b : Bool), (P ↔ ((if pd_hi d k = true then (1 : Int32) else 0) = (if b = true then 1 else 0) ∧ σ = σ)) → (pd_hi d k = b) → P := by
    intro P b hP hb
    rw [hP, hb]
    exact ⟨rfl, rfl⟩
  have hend : ∀ (a : Nat), a < pd_n d → pd_e d a ≤ 1 → ((¬ pd_s1 d a k < (1 : Int32) ∧ ¬ (2 : Int32) < pd_s1 d a k) ↔ pd_he d a k = true) := by
    intro a ha hle
    rcases pd_s1_cases h ha k with ⟨hs, e⟩ | ⟨hs, e, h4⟩
    · rw [e]; simp [pd_he, hs]
    · rw [e]; simp (disch := omega) only [sq_lt1, sq_2lt]
      simp [pd_he, hs, hle]; omega
  refine ⟨hin, hif, ?_⟩
  by_cases g1 : 1 < pd_e d (pd_f d k)
  · rw [if_pos g1]
    refine ⟨hin, _, σ, s1, hin, pd_s1 d (pd_s d k) k, σ, ?_, hin, ?_⟩
    · rw [q2]; exact s2
    · rw [q3]
      have hz : pd_hi d k = false := by
        have : ¬ pd_he d (pd_f d k) k = true := fun q => by have := r1 q; omega
        simp [pd_hi, this]
      simp [hz]
  · rw [if_neg g1]
    refine ⟨hin, his, ?_⟩
    by_cases g2 : 1 < pd_e d (pd_s d k)
    · rw [if_pos g2]
      refine ⟨hin, _, σ, s1, hin, pd_s1 d (pd_s d k) k, σ, ?_, hin, ?_⟩
      · rw [q2]; exact s2
      · rw [q3]
        have hz : pd_hi d k = false := by
          have : ¬ pd_he d (pd_s d k) k = true := fun q => by have := r2 q; omega
          simp [pd_hi, this]
        simp [hz]
    · rw [if_neg g2]
      refine ⟨hin, _, σ, s1, hin, pd_s1 d (pd_s d k) k, σ, ?_, hin, ?_⟩
      · rw [q2]; exact s2
      · rw [q3]
        simp (disch := omega) only [sq_eq2]
        have t1 := hend _ w1 (by omega)
        have t2 := hend _ w2 (by omega)
        by_cases ho : pd_o d k = 2
        · rw [if_pos ho, if_neg (by decide)]
          by_cases a1 : pd_s1 d (pd_f d k) k < (1 : Int32)
          · have : ¬ pd_he d (pd_f d k) k = true := fun q => (t1.mpr q).1 a1
            simp [a1, pd_hi, this]
          · by_cases a2 : (2 : Int32) < pd_s1 d (pd_f d k) k
            · have : ¬ pd_he d (pd_f d k) k = true := fun q => (t1.mpr q).2 a2
              simp [a1, a2, pd_hi, this]
            · have p1 := t1.mp ⟨a1, a2⟩
              by_cases b1 : pd_s1 d (pd_s d k) k < (1 : Int32)
              · have : ¬ pd_he d (pd_s d k) k = true := fun q => (t2.mpr q).1 b1
                simp [a1, a2, b1, pd_hi, this]
              · by_cases b2 : (2 : Int32) < pd_s1 d (pd_s d k) k
                · have : ¬ pd_he d (pd_s d k) k = true := fun q => (t2.mpr q).2 b2
                  simp [a1, a2, b1, b2, pd_hi, this]
                · have p2 := t2.mp ⟨b1, b2⟩
                  simp [a1, a2, b1, b2, pd_hi, p1, p2, ho]
        · simp [ho, pd_hi]
/-- the reference's bond of two atoms -/
def pd_bi (d : pd_D) (a b : Nat) : Int32 := match pd_bo d a b with | some k => nI k | none => -1
def pd_boN (d : pd_D) (a b m : Nat) : Option Nat := (List.range m).find? (fun k => pd_j d k a b)
theorem pd_boN_succ (h : pd_W d) (a b : Nat) {m : Nat} (hm : m < pd_b d) : pd_boN d a b (m + 1) = if pd_j d m a b = true then some m else pd_boN d a b m := by
  unfold pd_boN
  rw [List.range_succ, List.find?_append]
  cases hf : (List.range m).find? (fun k => pd_j d k a b) with
  | none =>
    by_cases hj : pd_j d m a b = true
    · simp [hj]
    · simp [hj]
  | some k =>
    have h1 : pd_j d k a b = true := List.find?_some (p := fun k => pd_j d k a b) hf
    have h2 : k < m := List.mem_range.mp (List.mem_of_find?_eq_some hf)
    by_cases hj : pd_j d m a b = true
    · have := h.2.2.2.1 k m a b (by omega) hm h1 hj
      omega
    · simp [hj]
theorem sp_mBondOf_1 (h : pd_W d) (hm : mD d σ) {a b : Nat} (ha : a < 7) (hb : b < 7) : ∀ m k, k + m = pd_b d → Rn_R_X7_bondOf 1 σ (nI a) (nI b) (match pd_boN d a b k with | some k => nI k | none => -1) (nI k) (pd_bi d a b) σ := by
  have h9 := h.1.2
  have h7 := h.1.1
  intro m
  induction m with
  | zero =>
    intro k hk
    have hk' : k = pd_b d := by omega
    subst hk'
    apply ru_R_X7_bondOf_1
    unfold tr_R_X7_bondOf_1
    rw [hm.1.2, if_pos (nI_le (by omega) (by omega))]
    exact ⟨rfl, rfl⟩
  | succ m ih =>
    intro k hk
    have hkb : k < pd_b d := by omega
    obtain ⟨q1, q2, q3, q4⟩ := hm.2.2 k hkb
    obtain ⟨w1, w2, w3, w4, w5, w6⟩ := h.2.2.1 k hkb
    have ih' := ih (k + 1) (by omega)
    rw [pd_boN_succ h a b hkb] at ih'
    have hin : vp_in (nI k) 9 := sp_in (by omega) (by decide)
    apply ru_R_X7_bondOf_1
    unfold tr_R_X7_bondOf_1
    rw [hm.1.2, if_neg (nI_ge (by omega) (by omega))]
    rw [sp_ix (by omega), q1, q2]
    simp (disch := omega) only [sq_eq, sp_inc, forall_eq]
    have hj : (pd_j d k a b = true) = ((pd_f d k = a ∧ pd_s d k = b) ∨ (pd_f d k = b ∧ pd_s d k = a)) := by simp [pd_j]
    simp only [hj] at ih'
    refine ⟨hin, ?_⟩
    by_cases c1 : pd_f d k = a
    · by_cases c2 : pd_s d k = b
      · simpa [c1, c2, hin] using ih'
      · by_cases c3 : pd_f d k = b
        · by_cases c4 : pd_s d k = a
          · exact absurd (c1.trans c4.symm) w3
          · rw [if_neg (by rintro (⟨_, q⟩ | ⟨_, q⟩); exact c2 q; exact c4 q)] at ih'
            simp only [c1, if_true, c2, if_false, hin, true_and]
            have hab : a = b := c1.symm.trans c3
            have c4' : ¬ pd_s d k = b := c2
            subst hab
            simp only [c4, if_true, if_false]
            exact ih'
        · rw [if_neg (by rintro (⟨_, q⟩ | ⟨q, _⟩); exact c2 q; exact c3 q)] at ih'
          rw [if_pos c1]
          refine ⟨hin, ?_⟩
          rw [if_neg c2]
          refine ⟨hin, ?_⟩
          rw [if_neg c3]
          exact ih'
    · rw [if_neg c1]
      refine ⟨hin, ?_⟩
      by_cases c3 : pd_f d k = b
      · rw [if_pos c3]
        refine ⟨hin, ?_⟩
        by_cases c4 : pd_s d k = a
        · rw [if_pos c4]
          rw [if_pos (Or.inr ⟨c3, c4⟩)] at ih'
          exact ih'
        · rw [if_neg c4]
          rw [if_neg (by rintro (⟨q, _⟩ | ⟨_, q⟩); exact c1 q; exact c4 q)] at ih'
          exact ih'
      · rw [if_neg c3]
        rw [if_neg (by rintro (⟨q, _⟩ | ⟨q, _⟩); exact c1 q; exact c3 q)] at ih'
        exact ih'
theorem sp_mBondOf (h : pd_W d) (hm : mD d σ) {a b : Nat} (ha : a < 7) (hb : b < 7) : R_X7_bondOf σ (nI a) (nI b) (pd_bi d a b) σ := by
  unfold R_X7_bondOf
  apply ru_R_X7_bondOf_0
  unfold tr_R_X7_bondOf_0
  exact sp_mBondOf_1 h hm ha hb (pd_b d) 0 (by omega)
theorem sp_mValence {e : Nat} (he : e < 6) : R_X7_valence σ (nI e) (nI (pd_v e)) σ := by
  unfold R_X7_valence
  have hh : e = 0 ∨ e = 1 ∨ e = 2 ∨ e = 3 ∨ e = 4 ∨ e = 5 := by omega
  rcases hh with rfl | rfl | rfl | rfl | rfl | rfl <;> simp (disch := omega) only [sq_eq0, sq_eq1, sq_eq2, sq_eq5] <;> simp <;> rfl
theorem sp_mLeft_1 (h : pd_W d) (hm : mD d σ) {a : Nat} (ha : a < pd_n d) : ∀ m k, k + m = pd_b d → Rn_R_X7_left 1 σ (nI a) (nI (pd_v (pd_e d a) - pd_sum (fun k => if pd_inc d k a = true then pd_o d k else 0) k)) (nI k) (nI (pd_lf d a)) σ := by
  have h9 := h.1.2
  have h7 := h.1.1
  intro m
  induction m with
  | zero =>
    intro k hk
    have hk' : k = pd_b d := by omega
    subst hk'
    apply ru_R_X7_left_1
    unfold tr_R_X7_left_1
    rw [hm.1.2, if_pos (nI_le (by omega) (by omega))]
    exact ⟨rfl, rfl⟩
  | succ m ih =>
    intro k hk
    have hkb : k < pd_b d := by omega
    obtain ⟨q1, q2, q3, q4⟩ := hm.2.2 k hkb
    obtain ⟨w1, w2, w3, w4, w5, w6⟩ := h.2.2.1 k hkb
    have ih' := ih (k + 1) (by omega)
    have hin : vp_in (nI k) 9 := sp_in (by omega) (by decide)
    have hle : pd_sum (fun k => if pd_inc d k a = true then pd_o d k else 0) (k + 1) ≤ pd_v (pd_e d a) := Nat.le_trans (pd_sum_mono _ (by omega)) (h.2.2.2.2 a ha)
    have hs : pd_sum (fun k => if pd_inc d k a = true then pd_o d k else 0) (k + 1) = pd_sum (fun k => if pd_inc d k a = true then pd_o d k else 0) k + (if pd_inc d k a = true then pd_o d k else 0) := rfl
    rw [hs] at ih' hle
    apply ru_R_X7_left_1
    unfold tr_R_X7_left_1
    rw [hm.1.2, if_neg (nI_ge (by omega) (by omega))]
    rw [sp_ix (by omega), q1, q2, q3]
    simp (disch := omega) only [sq_eq, sp_inc, forall_eq]
    refine ⟨hin, ?_⟩
    by_cases c1 : pd_f d k = a
    · have hi : pd_inc d k a = true := by simp [pd_inc, c1]
      rw [hi, if_pos rfl] at ih' hle
      rw [if_pos c1]
      refine ⟨hin, ?_⟩
      rw [pk_sub (by omega), ← Nat.sub_add_eq]
      exact ih'
    · rw [if_neg c1]
      refine ⟨hin, ?_⟩
      by_cases c2 : pd_s d k = a
      · have hi : pd_inc d k a = true := by simp [pd_inc, c2]
        rw [hi, if_pos rfl] at ih' hle
        rw [if_pos c2]
        refine ⟨hin, ?_⟩
        rw [pk_sub (by omega), ← Nat.sub_add_eq]
        exact ih'
      · have hi : pd_inc d k a = false := by simp [pd_inc, c1, c2]
        rw [hi, if_neg (by decide)] at ih'
        rw [if_neg c2]
        have e0 : ∀ n : Nat, nI n - (0 : Int32) = nI n := fun n => pk_sub (a := n) (b := 0) (Nat.zero_le _)
        rw [e0]
        exact ih'
theorem sp_mLeft (h : pd_W d) (hm : mD d σ) {a : Nat} (ha : a < pd_n d) : R_X7_left σ (nI a) (nI (pd_lf d a)) σ := by
  have h7 := h.1.1
  unfold R_X7_left
  apply ru_R_X7_left_0
  unfold tr_R_X7_left_0
  refine ⟨sp_in (by omega) (by decide), _, σ, ?_, sp_mLeft_1 h hm ha (pd_b d) 0 (by omega)⟩
  rw [sp_ix (by omega), (hm.2.1 a ha).1]
  exact sp_mValence (h.2.1 a ha).1
end SP3
