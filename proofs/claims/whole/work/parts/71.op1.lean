/-! the calls that change or ask the drawing alone -/
def op_pl (u : Int32) : Bool := !(decide (u < -1000)) && !(decide ((1000 : Int32) < u))
theorem op_pl_int {u : Int32} (h : op_pl u = true) : -1000 ≤ u.toInt ∧ u.toInt ≤ 1000 := by
  simp only [op_pl, Bool.and_eq_true, Bool.not_eq_true', decide_eq_false_iff_not, Int32.lt_iff_toInt_lt] at h
  have e1 : (-1000 : Int32).toInt = -1000 := by decide
  have e2 : (1000 : Int32).toInt = 1000 := by decide
  rw [e1, e2] at h
  omega
theorem sp_isPlace (σ : sf_St) (x y : Int32) : R_X6_isPlace σ x y (if (op_pl x && op_pl y) = true then 1 else 0) σ := by
  unfold R_X6_isPlace op_pl
  by_cases h1 : x < -1000
  · simp [h1]
  · by_cases h2 : (1000 : Int32) < x
    · simp [h1, h2]
    · by_cases h3 : y < -1000
      · simp [h1, h2, h3]
      · by_cases h4 : (1000 : Int32) < y
        · simp [h1, h2, h3, h4]
        · simp [h1, h2, h3, h4]
theorem sp_mPlace (σ : sf_St) (x : Int32) : R_X7_isPlace σ x (if op_pl x = true then 1 else 0) σ := by
  unfold R_X7_isPlace op_pl
  by_cases h1 : x < -1000
  · simp [h1]
  · by_cases h2 : (1000 : Int32) < x
    · simp [h1, h2]
    · simp [h1, h2]
/-- a number of an atom or bond, or none -/
theorem sp_has {u : Int32} {n : Nat} (hn : n < 2 ^ 31) : (u < 0 ∨ nI n ≤ u) ∨ ∃ j, j < n ∧ u = nI j := by
  rcases pk_ix u hn with h | h | h
  · exact Or.inl (Or.inl h)
  · exact Or.inl (Or.inr h)
  · exact Or.inr h
theorem sp_hasAtom_no {d : pd_D} {σ : sf_St} (hc : cD d σ) {u : Int32} (h : u < 0 ∨ nI (pd_n d) ≤ u) : R_X0_hasAtom σ u 0 σ := by
  unfold R_X0_hasAtom
  rw [hc.1.1]
  by_cases h0 : u < 0
  · simp [h0]
  · have := h.resolve_left h0
    simp [h0, this]
theorem sp_hasAtom_yes {d : pd_D} {σ : sf_St} (hw : pd_W d) (hc : cD d σ) {a : Nat} (h : a < pd_n d) : R_X0_hasAtom σ (nI a) 1 σ := by
  have := hw.1.1
  unfold R_X0_hasAtom
  rw [hc.1.1]
  simp (disch := omega) only [sq_neg, sq_le]
  rw [if_neg (fun h => h), if_neg (by omega)]
  exact ⟨by trivial, by trivial⟩
theorem sp_mAtom_no {d : pd_D} {σ : sf_St} (hc : mD d σ) {u : Int32} (h : u < 0 ∨ nI (pd_n d) ≤ u) : R_X7_isAtom σ u 0 σ := by
  unfold R_X7_isAtom
  rw [hc.1.1]
  by_cases h0 : u < 0
  · simp [h0]
  · have := h.resolve_left h0
    simp [h0, this]
theorem sp_mAtom_yes {d : pd_D} {σ : sf_St} (hw : pd_W d) (hc : mD d σ) {a : Nat} (h : a < pd_n d) : R_X7_isAtom σ (nI a) 1 σ := by
  have := hw.1.1
  unfold R_X7_isAtom
  rw [hc.1.1]
  simp (disch := omega) only [sq_neg, sq_le]
  rw [if_neg (fun h => h), if_neg (by omega)]
  exact ⟨by trivial, by trivial⟩
theorem sp_hasBond_no {d : pd_D} {σ : sf_St} (hc : cD d σ) {u : Int32} (h : u < 0 ∨ nI (pd_b d) ≤ u) : R_X0_hasBond σ u 0 σ := by
  unfold R_X0_hasBond
  rw [hc.1.2]
  by_cases h0 : u < 0
  · simp [h0]
  · have := h.resolve_left h0
    simp [h0, this]
theorem sp_hasBond_yes {d : pd_D} {σ : sf_St} (hw : pd_W d) (hc : cD d σ) {a : Nat} (h : a < pd_b d) : R_X0_hasBond σ (nI a) 1 σ := by
  have := hw.1.2
  unfold R_X0_hasBond
  rw [hc.1.2]
  simp (disch := omega) only [sq_neg, sq_le]
  rw [if_neg (fun h => h), if_neg (by omega)]
  exact ⟨by trivial, by trivial⟩
theorem sp_mBond_no {d : pd_D} {σ : sf_St} (hc : mD d σ) {u : Int32} (h : u < 0 ∨ nI (pd_b d) ≤ u) : R_X7_isBond σ u 0 σ := by
  unfold R_X7_isBond
  rw [hc.1.2]
  by_cases h0 : u < 0
  · simp [h0]
  · have := h.resolve_left h0
    simp [h0, this]
theorem sp_mBond_yes {d : pd_D} {σ : sf_St} (hw : pd_W d) (hc : mD d σ) {a : Nat} (h : a < pd_b d) : R_X7_isBond σ (nI a) 1 σ := by
  have := hw.1.2
  unfold R_X7_isBond
  rw [hc.1.2]
  simp (disch := omega) only [sq_neg, sq_le]
  rw [if_neg (fun h => h), if_neg (by omega)]
  exact ⟨by trivial, by trivial⟩
theorem op_hydrogens (σ σ' : sf_St) (a0 : Int32) (h : Inv σ σ') : ∃ (r : Int32) (τ τ' : sf_St), R_X6_hydrogens σ a0 r τ ∧ R_X7_hydrogens σ' a0 r τ' ∧ Inv τ τ' := by
  have hI := h
  obtain ⟨d, hw, hc, hm, -⟩ := h
  have h7 := hw.1.1
  unfold R_X6_hydrogens R_X7_hydrogens
  rcases sp_has (u := a0) (n := pd_n d) (by omega) with h | ⟨j, hj, rfl⟩
  · exact ⟨-1, σ, σ', ⟨0, σ, sp_hasAtom_no hc h, by simp⟩, ⟨0, σ', sp_mAtom_no hm h, by simp⟩, hI⟩
  · exact ⟨nI (pd_lf d j), σ, σ', ⟨1, σ, sp_hasAtom_yes hw hc hj, by rw [if_neg (by decide)]; exact ⟨_, σ, sp_freeValence hw hc hj, rfl, rfl⟩⟩, ⟨1, σ', sp_mAtom_yes hw hm hj, by rw [if_neg (by decide)]; exact ⟨_, σ', sp_mLeft hw hm hj, rfl, rfl⟩⟩, hI⟩
/-- a drawing with one atom moved -/
def pd_mv (d : pd_D) (a : Nat) (x y : Int) : pd_D := (d.1, (d.2.1.1, fun i => if i = a then x else d.2.1.2.1 i, fun i => if i = a then y else d.2.1.2.2 i), d.2.2)
theorem op_move (σ σ' : sf_St) (a0 a1 a2 : Int32) (h : Inv σ σ') : ∃ (r : Int32) (τ τ' : sf_St), R_X6_move σ a0 a1 a2 r τ ∧ R_X7_move σ' a0 a1 a2 r τ' ∧ Inv τ τ' := by
  have hI := h
  obtain ⟨d, hw, hc, hm, hC, hM, hK, hT, hB⟩ := h
  have h7 := hw.1.1
  unfold R_X6_move R_X7_move
  rcases sp_has (u := a0) (n := pd_n d) (by omega) with h | ⟨j, hj, rfl⟩
  · exact ⟨0, σ, σ', ⟨0, σ, sp_hasAtom_no hc h, by simp⟩, ⟨0, σ', sp_mAtom_no hm h, by simp⟩, hI⟩
  · by_cases hx : op_pl a1 = true
    · by_cases hy : op_pl a2 = true
      · refine ⟨1, sf_up (sf_up (sf_up σ 0 10 0) 3 j a1) 4 j a2, sf_up (sf_up σ' 2 j a1) 3 j a2, ⟨1, σ, sp_hasAtom_yes hw hc hj, ?_⟩, ⟨1, σ', sp_mAtom_yes hw hm hj, ?_⟩, ?_⟩
        · rw [if_neg (by decide)]
          refine ⟨_, σ, sp_isPlace σ a1 a2, ?_⟩
          rw [hx, hy, sp_ix (by omega)]
          simp only [Bool.and_self, if_true, forall_eq]
          rw [if_neg (by decide)]
          exact ⟨sp_in (by omega) (by decide), sp_in (by omega) (by decide), trivial, trivial⟩
        · rw [if_neg (by decide)]
          refine ⟨_, σ', sp_mPlace σ' a1, ?_⟩
          rw [hx, if_pos rfl, if_neg (by decide)]
          refine ⟨_, σ', sp_mPlace σ' a2, ?_⟩
          rw [hy, if_pos rfl, if_neg (by decide), sp_ix (by omega)]
          simp only [forall_eq]
          exact ⟨sp_in (by omega) (by decide), sp_in (by omega) (by decide), trivial, trivial⟩
        · have bx := op_pl_int hx
          have by' := op_pl_int hy
          refine ⟨pd_mv d j a1.toInt a2.toInt, ?_, ?_, ?_, Or.inl rfl, ?_, hK, hT, hB⟩
          · refine ⟨hw.1, fun i hi => ?_, hw.2.2⟩
            have h1 := hw.2.1 i hi
            refine ⟨h1.1, ?_⟩
            show _ ∧ _ ∧ _ ∧ _
            unfold pd_mv pd_x pd_y
            dsimp only
            by_cases hij : i = j
            · simp only [hij, if_true]; omega
            · simp only [hij, if_false]; exact h1.2
          · refine ⟨hc.1, fun i hi => ?_, hc.2.2.1, fun a c ha hcc => by rw [sf_up_at, if_neg (by omega), sf_up_at, if_neg (by omega), sf_up_at, if_neg (by omega)]; exact hc.2.2.2 a c ha hcc⟩
            have h1 := hc.2.1 i hi
            refine ⟨h1.1, ?_, ?_⟩
            · show (if i = j then a1 else σ 3 i) = Int32.ofInt (if i = j then a1.toInt else pd_x d i)
              by_cases hij : i = j
              · simp only [hij, if_true]; exact (iI_of a1).symm
              · simp only [hij, if_false]; exact h1.2.1
            · show (if i = j then a2 else σ 4 i) = Int32.ofInt (if i = j then a2.toInt else pd_y d i)
              by_cases hij : i = j
              · simp only [hij, if_true]; exact (iI_of a2).symm
              · simp only [hij, if_false]; exact h1.2.2
          · refine ⟨hm.1, fun i hi => ?_, hm.2.2⟩
            have h1 := hm.2.1 i hi
            refine ⟨h1.1, ?_, ?_⟩
            · show (if i = j then a1 else σ' 2 i) = Int32.ofInt (if i = j then a1.toInt else pd_x d i)
              by_cases hij : i = j
              · simp only [hij, if_true]; exact (iI_of a1).symm
              · simp only [hij, if_false]; exact h1.2.1
            · show (if i = j then a2 else σ' 3 i) = Int32.ofInt (if i = j then a2.toInt else pd_y d i)
              by_cases hij : i = j
              · simp only [hij, if_true]; exact (iI_of a2).symm
              · simp only [hij, if_false]; exact h1.2.2
          · exact hM
      · refine ⟨0, σ, σ', ⟨1, σ, sp_hasAtom_yes hw hc hj, ?_⟩, ⟨1, σ', sp_mAtom_yes hw hm hj, ?_⟩, hI⟩
        · rw [if_neg (by decide)]
          refine ⟨_, σ, sp_isPlace σ a1 a2, ?_⟩
          simp [hy]
        · rw [if_neg (by decide)]
          refine ⟨_, σ', sp_mPlace σ' a1, ?_⟩
          rw [hx, if_pos rfl, if_neg (by decide)]
          refine ⟨_, σ', sp_mPlace σ' a2, ?_⟩
          simp [hy]
    · refine ⟨0, σ, σ', ⟨1, σ, sp_hasAtom_yes hw hc hj, ?_⟩, ⟨1, σ', sp_mAtom_yes hw hm hj, ?_⟩, hI⟩
      · rw [if_neg (by decide)]
        refine ⟨_, σ, sp_isPlace σ a1 a2, ?_⟩
        simp [hx]
      · rw [if_neg (by decide)]
        refine ⟨_, σ', sp_mPlace σ' a1, ?_⟩
        simp [hx]
/-- a drawing with one atom more -/
def pd_at (d : pd_D) (e : Nat) (x y : Int) : pd_D := ((d.1.1 + 1, d.1.2), (fun i => if i = d.1.1 then e else d.2.1.1 i, fun i => if i = d.1.1 then x else d.2.1.2.1 i, fun i => if i = d.1.1 then y else d.2.1.2.2 i), d.2.2)
theorem pd_use_new {d : pd_D} (hw : pd_W d) {a : Nat} (ha : pd_n d ≤ a) : pd_use d a = 0 := by
  unfold pd_use
  refine Eq.trans (pd_sum_congr _ (fun k hk => ?_)) (pd_sum_zero _)
  obtain ⟨h1, h2, -⟩ := hw.2.2.1 k hk
  have : pd_inc d k a = false := by
    simp only [pd_inc, Bool.or_eq_false_iff, beq_eq_false_iff_ne]
    omega
  rw [this]
  rfl
theorem op_atom (σ σ' : sf_St) (a0 a1 a2 : Int32) (h : Inv σ σ') : ∃ (r : Int32) (τ τ' : sf_St), R_X6_atom σ a0 a1 a2 r τ ∧ R_X7_atom σ' a0 a1 a2 r τ' ∧ Inv τ τ' := by
  have hI := h
  obtain ⟨d, hw, hc, hm, hC, hM, hK, hT, hB⟩ := h
  have h7 := hw.1.1
  unfold R_X6_atom R_X7_atom
  rcases pk_ix a0 (n := 6) (by decide) with h | h | ⟨e, he, rfl⟩
  · exact ⟨-1, σ, σ', by simp [h], by simp [h], hI⟩
  · by_cases h0 : a0 < 0
    · exact ⟨-1, σ, σ', by simp [h0], by simp [h0], hI⟩
    · have h5 : (5 : Int32) < a0 := by
        rw [Int32.lt_iff_toInt_lt]
        have := Int32.le_iff_toInt_le.mp h
        have e1 : (nI 6).toInt = 6 := by decide
        have e2 : (5 : Int32).toInt = 5 := by decide
        omega
      have h6 : (6 : Int32) ≤ a0 := h
      exact ⟨-1, σ, σ', by simp [h0, h6], by simp [h0, h5], hI⟩
  · have e1 : (nI e < (0 : Int32)) = False := sq_neg (by omega)
    have e2 : ((6 : Int32) ≤ nI e) = False := by rw [sq_6le (by omega)]; simp; omega
    have e3 : ((5 : Int32) < nI e) = False := by rw [sq_5lt (by omega)]; simp; omega
    simp only [e1, e2, e3, if_false]
    by_cases hx : op_pl a1 = true
    · by_cases hy : op_pl a2 = true
      · by_cases hn : pd_n d = 7
        · refine ⟨-2, σ, σ', ⟨_, σ, sp_isPlace σ a1 a2, ?_⟩, ⟨_, σ', sp_mPlace σ' a1, ?_⟩, hI⟩
          · rw [hx, hy, hc.1.1, hn]
            simp only [Bool.and_self, if_true]
            rw [if_neg (by decide), if_neg (by decide)]
            exact ⟨by trivial, by trivial⟩
          · rw [hx, if_pos rfl, if_neg (by decide)]
            refine ⟨_, σ', sp_mPlace σ' a2, ?_⟩
            rw [hy, if_pos rfl, if_neg (by decide), hm.1.1, hn, if_pos (by decide)]
            exact ⟨by trivial, by trivial⟩
        · have bx := op_pl_int hx
          have by' := op_pl_int hy
          refine ⟨nI (pd_n d), sf_up (sf_up (sf_up (sf_up (sf_up σ 0 10 0) 2 (pd_n d) (nI e)) 3 (pd_n d) a1) 4 (pd_n d) a2) 1 3 (nI (pd_n d + 1)), sf_up (sf_up (sf_up (sf_up (sf_up σ' 1 (pd_n d) (nI e)) 2 (pd_n d) a1) 3 (pd_n d) a2) 0 0 (nI (pd_n d + 1))) 0 11 0, ⟨_, σ, sp_isPlace σ a1 a2, ?_⟩, ⟨_, σ', sp_mPlace σ' a1, ?_⟩, ?_⟩
          · rw [hx, hy, hc.1.1]
            simp only [Bool.and_self, if_true]
            rw [if_neg (by decide)]
            simp (disch := omega) only [sq_lt7]
            rw [if_pos (by omega)]
            intro τ8 h8
            subst h8
            refine ⟨_, _, ?_, rfl, rfl⟩
            unfold R_X0_addAtom
            have e8 : sf_up σ 0 10 0 1 3 = nI (pd_n d) := hc.1.1
            simp only [forall_eq, e8, sp_ix (show pd_n d < 2 ^ 31 by omega)]
            refine ⟨sp_in (by omega) (by decide), sp_in (by omega) (by decide), sp_in (by omega) (by decide), trivial, ?_⟩
            have e9 : (sf_up (sf_up (sf_up (sf_up σ 0 10 0) 2 (pd_n d) (nI e)) 3 (pd_n d) a1) 4 (pd_n d) a2) 1 3 = nI (pd_n d) := hc.1.1
            rw [e9, sp_inc]
          · rw [hx, if_pos rfl, if_neg (by decide)]
            refine ⟨_, σ', sp_mPlace σ' a2, ?_⟩
            rw [hy, if_pos rfl, if_neg (by decide), hm.1.1]
            simp (disch := omega) only [sq_eq7]
            rw [if_neg hn]
            simp only [forall_eq, sp_ix (show pd_n d < 2 ^ 31 by omega)]
            have f1 : (sf_up σ' 1 (pd_n d) (nI e)) 0 0 = nI (pd_n d) := hm.1.1
            have f2 : (sf_up (sf_up σ' 1 (pd_n d) (nI e)) 2 (pd_n d) a1) 0 0 = nI (pd_n d) := hm.1.1
            have f3 : (sf_up (sf_up (sf_up σ' 1 (pd_n d) (nI e)) 2 (pd_n d) a1) 3 (pd_n d) a2) 0 0 = nI (pd_n d) := hm.1.1
            simp only [f1, sp_ix (show pd_n d < 2 ^ 31 by omega), f2, f3, sp_inc]
            refine ⟨sp_in (by omega) (by decide), sp_in (by omega) (by decide), sp_in (by omega) (by decide), ?_, trivial⟩
            show nI (pd_n d) = nI (pd_n d + 1) - 1
            exact (nI_pred _).symm
          · refine ⟨pd_at d e a1.toInt a2.toInt, ?_, ?_, ?_, Or.inl rfl, Or.inl rfl, hK, hT, hB⟩
            · refine ⟨⟨by show pd_n d + 1 ≤ 7; omega, hw.1.2⟩, fun i hi => ?_, fun k hk => ?_, hw.2.2.2.1, fun a ha => ?_⟩
              · show (if i = pd_n d then e else pd_e d i) < 6 ∧ -1000 ≤ (if i = pd_n d then a1.toInt else pd_x d i) ∧ (if i = pd_n d then a1.toInt else pd_x d i) ≤ 1000 ∧ -1000 ≤ (if i = pd_n d then a2.toInt else pd_y d i) ∧ (if i = pd_n d then a2.toInt else pd_y d i) ≤ 1000
                by_cases hin : i = pd_n d
                · simp only [hin, if_true]; omega
                · simp only [hin, if_false]
                  have : i < pd_n d := by have h1 : i < pd_n d + 1 := hi; omega
                  exact hw.2.1 i this
              · obtain ⟨w1, w2, w3⟩ := hw.2.2.1 k hk
                refine ⟨?_, ?_, w3⟩
                · show pd_f d k < pd_n d + 1; omega
                · show pd_s d k < pd_n d + 1; omega
              · show pd_use d a ≤ pd_v (if a = pd_n d then e else pd_e d a)
                by_cases hin : a = pd_n d
                · rw [pd_use_new hw (by omega)]; exact Nat.zero_le _
                · simp only [hin, if_false]
                  have : a < pd_n d := by have h1 : a < pd_n d + 1 := ha; omega
                  exact hw.2.2.2.2 a this
            · refine ⟨⟨rfl, hc.1.2⟩, fun i hi => ?_, hc.2.2.1, fun a c ha hcc => by rw [sf_up_at, if_neg (by omega), sf_up_at, if_neg (by omega), sf_up_at, if_neg (by omega), sf_up_at, if_neg (by omega), sf_up_at, if_neg (by omega)]; exact hc.2.2.2 a c ha hcc⟩
              show (if i = pd_n d then nI e else σ 2 i) = nI (if i = pd_n d then e else pd_e d i) ∧ (if i = pd_n d then a1 else σ 3 i) = Int32.ofInt (if i = pd_n d then a1.toInt else pd_x d i) ∧ (if i = pd_n d then a2 else σ 4 i) = Int32.ofInt (if i = pd_n d then a2.toInt else pd_y d i)
              by_cases hin : i = pd_n d
              · simp only [hin, if_true]
                exact ⟨by trivial, (iI_of a1).symm, (iI_of a2).symm⟩
              · simp only [hin, if_false]
                have : i < pd_n d := by have h1 : i < pd_n d + 1 := hi; omega
                exact hc.2.1 i this
            · refine ⟨⟨rfl, hm.1.2⟩, fun i hi => ?_, hm.2.2⟩
              show (if i = pd_n d then nI e else σ' 1 i) = nI (if i = pd_n d then e else pd_e d i) ∧ (if i = pd_n d then a1 else σ' 2 i) = Int32.ofInt (if i = pd_n d then a1.toInt else pd_x d i) ∧ (if i = pd_n d then a2 else σ' 3 i) = Int32.ofInt (if i = pd_n d then a2.toInt else pd_y d i)
              by_cases hin : i = pd_n d
              · simp only [hin, if_true]
                exact ⟨by trivial, (iI_of a1).symm, (iI_of a2).symm⟩
              · simp only [hin, if_false]
                have : i < pd_n d := by have h1 : i < pd_n d + 1 := hi; omega
                exact hm.2.1 i this
      · refine ⟨-1, σ, σ', ⟨_, σ, sp_isPlace σ a1 a2, by simp [hy]⟩, ⟨_, σ', sp_mPlace σ' a1, ?_⟩, hI⟩
        rw [hx, if_pos rfl, if_neg (by decide)]
        exact ⟨_, σ', sp_mPlace σ' a2, by simp [hy]⟩
    · exact ⟨-1, σ, σ', ⟨_, σ, sp_isPlace σ a1 a2, by simp [hx]⟩, ⟨_, σ', sp_mPlace σ' a1, by simp [hx]⟩, hI⟩
