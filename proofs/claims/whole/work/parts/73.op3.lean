/-! mark -/
def pd_sm (d : pd_D) (k nr m : Nat) : pd_D := (d.1, d.2.1, (fun i => if i = k then nr else d.2.2.1 i, fun i => if i = k then d.2.2.1 k + d.2.2.2.1 k - nr else d.2.2.2.1 i, d.2.2.2.2.1, fun i => if i = k then m else d.2.2.2.2.2 i))
theorem pd_sm_f (d : pd_D) (k nr m i : Nat) : pd_f (pd_sm d k nr m) i = if i = k then nr else pd_f d i := rfl
theorem pd_sm_s (d : pd_D) (k nr m i : Nat) : pd_s (pd_sm d k nr m) i = if i = k then pd_f d k + pd_s d k - nr else pd_s d i := rfl
theorem pd_sm_fs {d : pd_D} {k nr : Nat} (h : nr = pd_f d k ∨ nr = pd_s d k) (m i : Nat) : (pd_f (pd_sm d k nr m) i = pd_f d i ∧ pd_s (pd_sm d k nr m) i = pd_s d i) ∨ (pd_f (pd_sm d k nr m) i = pd_s d i ∧ pd_s (pd_sm d k nr m) i = pd_f d i) := by
  rw [pd_sm_f, pd_sm_s]
  by_cases hi : i = k
  · subst hi
    rw [if_pos rfl, if_pos rfl]
    rcases h with h | h
    · left; omega
    · right; omega
  · rw [if_neg hi, if_neg hi]
    exact Or.inl ⟨rfl, rfl⟩
theorem pd_sm_j {d : pd_D} {k nr : Nat} (h : nr = pd_f d k ∨ nr = pd_s d k) (m i a b : Nat) : pd_j (pd_sm d k nr m) i a b = pd_j d i a b := by
  unfold pd_j
  rcases pd_sm_fs h m i with ⟨h1, h2⟩ | ⟨h1, h2⟩
  · rw [h1, h2]
  · rw [h1, h2, Bool.or_comm, Bool.and_comm, Bool.and_comm (pd_s d i == a)]
theorem pd_sm_inc {d : pd_D} {k nr : Nat} (h : nr = pd_f d k ∨ nr = pd_s d k) (m i a : Nat) : pd_inc (pd_sm d k nr m) i a = pd_inc d i a := by
  unfold pd_inc
  rcases pd_sm_fs h m i with ⟨h1, h2⟩ | ⟨h1, h2⟩
  · rw [h1, h2]
  · rw [h1, h2, Bool.or_comm]
theorem pd_sm_bo {d : pd_D} {k nr : Nat} (h : nr = pd_f d k ∨ nr = pd_s d k) (m : Nat) : pd_bo (pd_sm d k nr m) = pd_bo d := by
  funext a b
  unfold pd_bo
  have : (fun i => pd_j (pd_sm d k nr m) i a b) = fun i => pd_j d i a b := funext fun i => pd_sm_j h m i a b
  rw [this]
  rfl
theorem pd_sm_use {d : pd_D} {k nr : Nat} (h : nr = pd_f d k ∨ nr = pd_s d k) (m : Nat) : pd_use (pd_sm d k nr m) = pd_use d := by
  funext a
  unfold pd_use
  exact pd_sum_congr _ (fun i _ => by rw [pd_sm_inc h]; rfl)
theorem pd_sm_K {d : pd_D} {k nr : Nat} (h : nr = pd_f d k ∨ nr = pd_s d k) (m : Nat) : pd_K (pd_sm d k nr m) = pd_K d := by
  have e1 : pd_row (pd_sm d k nr m) = pd_row d := by
    funext pre a
    unfold pd_row pd_hd pd_lf pd_or pd_og
    rw [pd_sm_use h, pd_sm_bo h]
    rfl
  unfold pd_K
  rw [e1]
  rfl
theorem sp_isMark_no (σ : sf_St) {u : Int32} (h : u < 0 ∨ (2 : Int32) < u) : R_X6_isMark σ u 0 σ := by
  unfold R_X6_isMark
  by_cases h0 : u < 0
  · simp [h0]
  · simp [h0, h.resolve_left h0]
theorem sp_isMark_yes (σ : sf_St) {u : Int32} (h0 : ¬ u < 0) (h1 : ¬ (2 : Int32) < u) : R_X6_isMark σ u 1 σ := by
  unfold R_X6_isMark
  simp [h0, h1]
theorem sp_mark {u : Int32} : (u < 0 ∨ (2 : Int32) < u) ∨ (∃ m, m ≤ 2 ∧ u = nI m ∧ ¬ u < 0 ∧ ¬ (2 : Int32) < u) := by
  by_cases h0 : u < 0
  · exact Or.inl (Or.inl h0)
  · by_cases h1 : (2 : Int32) < u
    · exact Or.inl (Or.inr h1)
    · rcases pk_ix u (n := 3) (by decide) with h | h | ⟨m, hm, h⟩
      · exact absurd h h0
      · exfalso
        apply h1
        rw [Int32.lt_iff_toInt_lt]
        have := Int32.le_iff_toInt_le.mp h
        have e1 : (nI 3).toInt = 3 := by decide
        have e2 : (2 : Int32).toInt = 2 := by decide
        omega
      · exact Or.inr ⟨m, by omega, h, h0, h1⟩
theorem op_mark_inv {σ σ' : sf_St} (h : Inv σ σ') : ∀ d, pd_W d → cD d σ → mD d σ' → iv_M d σ' → ∀ k nr m, k < pd_b d → (nr = pd_f d k ∨ nr = pd_s d k) → m ≤ 2 →
    Inv (sf_up (sf_up (sf_up (sf_up σ 0 10 0) 5 k (nI nr)) 6 k (nI (pd_f d k + pd_s d k - nr))) 8 k (nI m)) (sf_up (sf_up (sf_up σ' 4 k (nI nr)) 5 k (nI (pd_f d k + pd_s d k - nr))) 7 k (nI m)) := by
  intro d hw hc hm hM k nr m hk hnr hm2
  obtain ⟨-, -, -, -, -, -, hK, hT, hB⟩ := h
  refine ⟨pd_sm d k nr m, ?_, ?_, ?_, Or.inl rfl, ?_, hK, hT, hB⟩
  · refine ⟨hw.1, hw.2.1, fun i hi => ?_, fun i j a b hi hj h1 h2 => ?_, fun a ha => ?_⟩
    · obtain ⟨w1, w2, w3, w4, w5, w6⟩ := hw.2.2.1 i hi
      have hm' : pd_m (pd_sm d k nr m) i ≤ 2 := by
        show (if i = k then m else pd_m d i) ≤ 2
        split <;> omega
      rcases pd_sm_fs hnr m i with ⟨h1, h2⟩ | ⟨h1, h2⟩
      · rw [h1, h2]; exact ⟨w1, w2, w3, w4, w5, hm'⟩
      · rw [h1, h2]; exact ⟨w2, w1, fun q => w3 q.symm, w4, w5, hm'⟩
    · rw [pd_sm_j hnr] at h1 h2
      exact hw.2.2.2.1 i j a b hi hj h1 h2
    · rw [pd_sm_use hnr]
      exact hw.2.2.2.2 a ha
  · refine ⟨hc.1, hc.2.1, fun i hi => ?_, fun a c ha hcc => ?_⟩
    · obtain ⟨q1, q2, q3, q4⟩ := hc.2.2.1 i hi
      show (if i = k then nI nr else σ 5 i) = nI (if i = k then nr else pd_f d i) ∧ (if i = k then nI (pd_f d k + pd_s d k - nr) else σ 6 i) = nI (if i = k then pd_f d k + pd_s d k - nr else pd_s d i) ∧ σ 7 i = nI (pd_o d i) ∧ (if i = k then nI m else σ 8 i) = nI (if i = k then m else pd_m d i)
      by_cases hik : i = k
      · simp only [hik, if_true]
        exact ⟨by trivial, by trivial, hik ▸ q3, by trivial⟩
      · simp only [hik, if_false]
        exact ⟨q1, q2, q3, q4⟩
    · rw [sf_up_at, if_neg (by omega), sf_up_at, if_neg (by omega), sf_up_at, if_neg (by omega), sf_up_at, if_neg (by omega)]
      have e : pd_lk (pd_sm d k nr m) a c = pd_lk d a c := by unfold pd_lk; rw [pd_sm_bo hnr]
      rw [e]
      exact hc.2.2.2 a c ha hcc
  · refine ⟨hm.1, hm.2.1, fun i hi => ?_⟩
    obtain ⟨q1, q2, q3, q4⟩ := hm.2.2 i hi
    show (if i = k then nI nr else σ' 4 i) = nI (if i = k then nr else pd_f d i) ∧ (if i = k then nI (pd_f d k + pd_s d k - nr) else σ' 5 i) = nI (if i = k then pd_f d k + pd_s d k - nr else pd_s d i) ∧ σ' 6 i = nI (pd_o d i) ∧ (if i = k then nI m else σ' 7 i) = nI (if i = k then m else pd_m d i)
    by_cases hik : i = k
    · simp only [hik, if_true]
      exact ⟨by trivial, by trivial, hik ▸ q3, by trivial⟩
    · simp only [hik, if_false]
      exact ⟨q1, q2, q3, q4⟩
  · rcases hM with hM | ⟨hM1, hM2⟩
    · exact Or.inl hM
    · refine Or.inr ⟨hM1, ?_⟩
      unfold mS
      rw [pd_sm_K hnr]
      exact hM2
theorem op_mark (σ σ' : sf_St) (a0 a1 a2 : Int32) (h : Inv σ σ') : ∃ (r : Int32) (τ τ' : sf_St), R_X6_mark σ a0 a1 a2 r τ ∧ R_X7_mark σ' a0 a1 a2 r τ' ∧ Inv τ τ' := by
  have hI := h
  obtain ⟨d, hw, hc, hm, hC, hM, hK, hT, hB⟩ := h
  have h7 := hw.1.1
  have h9 := hw.1.2
  unfold R_X6_mark R_X7_mark
  rcases sp_has (u := a0) (n := pd_b d) (by omega) with h | ⟨k, hk, rfl⟩
  · exact ⟨0, σ, σ', ⟨0, σ, sp_hasBond_no hc h, by simp⟩, ⟨0, σ', sp_mBond_no hm h, by simp⟩, hI⟩
  · rcases sp_mark (u := a1) with h | ⟨m, hm2, rfl, u0, u2⟩
    · refine ⟨0, σ, σ', ⟨1, σ, sp_hasBond_yes hw hc hk, ?_⟩, ⟨1, σ', sp_mBond_yes hw hm hk, ?_⟩, hI⟩
      · rw [if_neg (by decide)]
        exact ⟨0, σ, sp_isMark_no σ h, by simp⟩
      · rw [if_neg (by decide)]
        by_cases h0 : a1 < 0
        · simp [h0]
        · simp [h0, h.resolve_left h0]
    · obtain ⟨q1, q2, q3, q4⟩ := hc.2.2.1 k hk
      obtain ⟨p1, p2, p3, p4⟩ := hm.2.2 k hk
      obtain ⟨w1, w2, w3, w4, w5, w6⟩ := hw.2.2.1 k hk
      have hin : vp_in (nI k) 9 := sp_in (by omega) (by decide)
      have hix : sf_ix (nI k) = k := sp_ix (by omega)
      by_cases hf : nI (pd_f d k) = a2
      · subst hf
        refine ⟨1, _, _, ⟨1, σ, sp_hasBond_yes hw hc hk, ?_⟩, ⟨1, σ', sp_mBond_yes hw hm hk, ?_⟩, op_mark_inv hI d hw hc hm hM k (pd_f d k) m hk (Or.inl rfl) hm2⟩
        · rw [if_neg (by decide)]
          refine ⟨1, σ, sp_isMark_yes σ u0 u2, ?_⟩
          rw [if_neg (by decide)]
          refine ⟨1, σ, ?_, ?_⟩
          · unfold R_X0_isEnd
            rw [hix, q1]
            exact ⟨hin, by rw [if_pos rfl]; exact ⟨rfl, rfl⟩⟩
          · rw [if_neg (by decide)]
            intro τ1 ht
            subst ht
            refine ⟨_, ?_, rfl, rfl⟩
            unfold R_X0_setMark
            have e5 : sf_up σ 0 10 0 5 k = nI (pd_f d k) := q1
            have e6 : sf_up σ 0 10 0 6 k = nI (pd_s d k) := q2
            simp only [forall_eq, hix, e5, e6, if_true]
            rw [show pd_f d k + pd_s d k - pd_f d k = pd_s d k by omega]
            exact ⟨hin, hin, hin, hin, hin, by trivial⟩
        · rw [if_neg (by decide), if_neg u0, if_neg u2]
          simp only [forall_eq, hix, p1, p2, if_true]
          have e : nI (pd_f d k) + nI (pd_s d k) - nI (pd_f d k) = nI (pd_f d k + pd_s d k - pd_f d k) := by
            rw [nI_add, pk_sub (by omega)]
          rw [e]
          exact ⟨hin, hin, hin, hin, hin, hin, by trivial, by trivial⟩
      · by_cases hs : nI (pd_s d k) = a2
        · subst hs
          refine ⟨1, _, _, ⟨1, σ, sp_hasBond_yes hw hc hk, ?_⟩, ⟨1, σ', sp_mBond_yes hw hm hk, ?_⟩, op_mark_inv hI d hw hc hm hM k (pd_s d k) m hk (Or.inr rfl) hm2⟩
          · rw [if_neg (by decide)]
            refine ⟨1, σ, sp_isMark_yes σ u0 u2, ?_⟩
            rw [if_neg (by decide)]
            refine ⟨1, σ, ?_, ?_⟩
            · unfold R_X0_isEnd
              rw [hix, q1, q2]
              exact ⟨hin, by rw [if_neg hf, if_pos rfl]; exact ⟨hin, rfl, rfl⟩⟩
            · rw [if_neg (by decide)]
              intro τ1 ht
              subst ht
              refine ⟨_, ?_, rfl, rfl⟩
              unfold R_X0_setMark
              have e5 : sf_up σ 0 10 0 5 k = nI (pd_f d k) := q1
              simp only [forall_eq, hix, e5, hf, if_false]
              rw [show pd_f d k + pd_s d k - pd_s d k = pd_f d k by omega]
              exact ⟨hin, hin, hin, hin, hin, by trivial⟩
          · rw [if_neg (by decide), if_neg u0, if_neg u2]
            simp only [forall_eq, hix, p1, p2, if_true, hf, if_false]
            have e : nI (pd_f d k) + nI (pd_s d k) - nI (pd_s d k) = nI (pd_f d k + pd_s d k - pd_s d k) := by
              rw [nI_add, pk_sub (by omega)]
            rw [e]
            exact ⟨hin, hin, hin, hin, hin, hin, hin, by trivial, by trivial⟩
        · refine ⟨0, σ, σ', ⟨1, σ, sp_hasBond_yes hw hc hk, ?_⟩, ⟨1, σ', sp_mBond_yes hw hm hk, ?_⟩, hI⟩
          · rw [if_neg (by decide)]
            refine ⟨1, σ, sp_isMark_yes σ u0 u2, ?_⟩
            rw [if_neg (by decide)]
            refine ⟨0, σ, ?_, by simp⟩
            unfold R_X0_isEnd
            rw [hix, q1, q2]
            exact ⟨hin, by rw [if_neg hf, if_neg hs]; exact ⟨hin, rfl, rfl⟩⟩
          · rw [if_neg (by decide), if_neg u0, if_neg u2]
            simp only [forall_eq, hix, p1, p2, hf, hs, if_false]
            exact ⟨hin, hin, by trivial, by trivial⟩
