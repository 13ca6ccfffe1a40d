/-! bond -/
def pd_bd (d : pd_D) (a b o m : Nat) : pd_D := ((d.1.1, d.1.2 + 1), d.2.1, (fun i => if i = d.1.2 then a else d.2.2.1 i, fun i => if i = d.1.2 then b else d.2.2.2.1 i, fun i => if i = d.1.2 then o else d.2.2.2.2.1 i, fun i => if i = d.1.2 then m else d.2.2.2.2.2 i))
theorem pd_bd_f (d : pd_D) (a b o m i : Nat) : pd_f (pd_bd d a b o m) i = if i = pd_b d then a else pd_f d i := rfl
theorem pd_bd_s (d : pd_D) (a b o m i : Nat) : pd_s (pd_bd d a b o m) i = if i = pd_b d then b else pd_s d i := rfl
theorem pd_bd_o (d : pd_D) (a b o m i : Nat) : pd_o (pd_bd d a b o m) i = if i = pd_b d then o else pd_o d i := rfl
theorem pd_bd_m (d : pd_D) (a b o m i : Nat) : pd_m (pd_bd d a b o m) i = if i = pd_b d then m else pd_m d i := rfl
theorem pd_bd_j {d : pd_D} {a b o m i : Nat} (h : i < pd_b d) (x y : Nat) : pd_j (pd_bd d a b o m) i x y = pd_j d i x y := by
  unfold pd_j
  rw [pd_bd_f, pd_bd_s, if_neg (by omega), if_neg (by omega)]
def pd_ab (a b x y : Nat) : Bool := (a == x && b == y) || (a == y && b == x)
theorem pd_bd_jB (d : pd_D) (a b o m x y : Nat) : pd_j (pd_bd d a b o m) (pd_b d) x y = pd_ab a b x y := by
  unfold pd_j
  rw [pd_bd_f, pd_bd_s, if_pos rfl, if_pos rfl]
  rfl
theorem pd_find_congr {P Q : Nat → Bool} : ∀ l : List Nat, (∀ i, i ∈ l → P i = Q i) → l.find? P = l.find? Q := by
  intro l
  induction l with
  | nil => intro _; rfl
  | cons x l ih =>
    intro h
    rw [List.find?_cons, List.find?_cons, h x (List.mem_cons_self ..), ih (fun i hi => h i (List.mem_cons_of_mem _ hi))]
theorem pd_ab_bo {d : pd_D} {a b x y : Nat} (h : pd_ab a b x y = true) : pd_bo d x y = pd_bo d a b := by
  simp only [pd_ab, Bool.or_eq_true, Bool.and_eq_true, beq_iff_eq] at h
  rcases h with ⟨rfl, rfl⟩ | ⟨rfl, rfl⟩
  · rfl
  · exact pd_bo_comm d _ _
theorem pd_bd_bo {d : pd_D} {a b o m : Nat} (hn : pd_bo d a b = none) (x y : Nat) : pd_bo (pd_bd d a b o m) x y = if pd_ab a b x y = true then some (pd_b d) else pd_bo d x y := by
  have e1 : (List.range (pd_b d)).find? (fun k => pd_j (pd_bd d a b o m) k x y) = pd_bo d x y :=
    pd_find_congr _ (fun i hi => pd_bd_j (List.mem_range.mp hi) x y)
  have e0 : pd_bo (pd_bd d a b o m) x y = ((List.range (pd_b d + 1)).find? (fun k => pd_j (pd_bd d a b o m) k x y)) := rfl
  rw [e0, List.range_succ, List.find?_append, e1]
  by_cases h : pd_ab a b x y = true
  · rw [if_pos h, pd_ab_bo h, hn]
    simp [pd_bd_jB, h]
  · rw [if_neg h]
    simp [pd_bd_jB, h]
theorem pd_bd_inc {d : pd_D} {a b o m i : Nat} (h : i < pd_b d) (x : Nat) : pd_inc (pd_bd d a b o m) i x = pd_inc d i x := by
  unfold pd_inc
  rw [pd_bd_f, pd_bd_s, if_neg (by omega), if_neg (by omega)]
theorem pd_bd_use (d : pd_D) (a b o m x : Nat) : pd_use (pd_bd d a b o m) x = pd_use d x + (if a = x ∨ b = x then o else 0) := by
  have e0 : pd_use (pd_bd d a b o m) x = pd_sum (fun k => if pd_inc (pd_bd d a b o m) k x = true then pd_o (pd_bd d a b o m) k else 0) (pd_b d) + (if pd_inc (pd_bd d a b o m) (pd_b d) x = true then pd_o (pd_bd d a b o m) (pd_b d) else 0) := rfl
  rw [e0]
  have e1 : pd_sum (fun k => if pd_inc (pd_bd d a b o m) k x = true then pd_o (pd_bd d a b o m) k else 0) (pd_b d) = pd_use d x :=
    pd_sum_congr _ (fun i hi => by rw [pd_bd_inc hi, pd_bd_o, if_neg (show ¬ i = pd_b d by omega)])
  rw [e1]
  unfold pd_inc
  rw [pd_bd_f, pd_bd_s, pd_bd_o, if_pos rfl, if_pos rfl, if_pos rfl]
  simp only [Bool.or_eq_true, beq_iff_eq]
theorem pd_bd_W {d : pd_D} (hw : pd_W d) {a b o m : Nat} (ha : a < pd_n d) (hb : b < pd_n d) (hab : a ≠ b) (ho : 1 ≤ o) (ho3 : o ≤ 3) (hm : m ≤ 2) (hn : pd_bo d a b = none) (h9 : pd_b d < 9) (la : o ≤ pd_lf d a) (lb : o ≤ pd_lf d b) : pd_W (pd_bd d a b o m) := by
  refine ⟨⟨hw.1.1, by show pd_b d + 1 ≤ 9; omega⟩, hw.2.1, fun i hi => ?_, fun i j x y hi hj h1 h2 => ?_, fun x hx => ?_⟩
  · have hi' : i < pd_b d + 1 := hi
    rw [pd_bd_f, pd_bd_s, pd_bd_o, pd_bd_m]
    show _ < pd_n d ∧ _ < pd_n d ∧ _
    by_cases hik : i = pd_b d
    · simp only [if_pos hik]
      exact ⟨ha, hb, hab, ho, ho3, hm⟩
    · simp only [if_neg hik]
      exact hw.2.2.1 i (by omega)
  · have hi' : i < pd_b d + 1 := hi
    have hj' : j < pd_b d + 1 := hj
    have key : ∀ i, i < pd_b d → pd_j (pd_bd d a b o m) i x y = true → pd_j (pd_bd d a b o m) (pd_b d) x y = true → False := by
      intro i hi h1 h2
      rw [pd_bd_j hi] at h1
      rw [pd_bd_jB] at h2
      have := pd_bo_of hw hi h1
      rw [pd_ab_bo h2, hn] at this
      cases this
    by_cases hik : i = pd_b d
    · by_cases hjk : j = pd_b d
      · omega
      · subst hik; exact (key j (by omega) h2 h1).elim
    · by_cases hjk : j = pd_b d
      · subst hjk; exact (key i (by omega) h1 h2).elim
      · rw [pd_bd_j (by omega)] at h1 h2
        exact hw.2.2.2.1 i j x y (by omega) (by omega) h1 h2
  · rw [pd_bd_use]
    show _ ≤ pd_v (pd_e d x)
    have h1 := hw.2.2.2.2 x hx
    unfold pd_lf at la lb
    by_cases hxx : a = x ∨ b = x
    · rw [if_pos hxx]
      rcases hxx with rfl | rfl <;> omega
    · rw [if_neg hxx]; omega
theorem op_bond (σ σ' : sf_St) (a0 a1 a2 a3 : Int32) (h : Inv σ σ') : ∃ (r : Int32) (τ τ' : sf_St), R_X6_bond σ a0 a1 a2 a3 r τ ∧ R_X7_bond σ' a0 a1 a2 a3 r τ' ∧ Inv τ τ' := by
  have hI := h
  obtain ⟨d, hw, hc, hm, hC, hM, hK, hT, hB⟩ := h
  have h7 := hw.1.1
  have h9 := hw.1.2
  unfold R_X6_bond R_X7_bond
  rcases sp_has (u := a0) (n := pd_n d) (by omega) with h | ⟨a, ha, rfl⟩
  · exact ⟨-1, σ, σ', ⟨0, σ, sp_hasAtom_no hc h, by simp⟩, ⟨0, σ', sp_mAtom_no hm h, by simp⟩, hI⟩
  have n01 : ¬ ((1 : Int32) = 0) := by decide
  rcases sp_has (u := a1) (n := pd_n d) (by omega) with h | ⟨b, hb, rfl⟩
  · exact ⟨-1, σ, σ', ⟨1, σ, sp_hasAtom_yes hw hc ha, by rw [if_neg n01]; exact ⟨0, σ, sp_hasAtom_no hc h, by simp⟩⟩, ⟨1, σ', sp_mAtom_yes hw hm ha, by rw [if_neg n01]; exact ⟨0, σ', sp_mAtom_no hm h, by simp⟩⟩, hI⟩
  suffices hs : ∃ (r : Int32) (τ τ' : sf_St),
      (if nI a = nI b then (r = (-1 : Int32) ∧ τ = σ) else (if a2 < (1 : Int32) then (r = (-1 : Int32) ∧ τ = σ) else (if (3 : Int32) < a2 then (r = (-1 : Int32) ∧ τ = σ) else (∃ (r14 : Int32) (τ13 : sf_St), R_X6_isMark σ a3 r14 τ13 ∧ (if r14 = (0 : Int32) then (r = (-1 : Int32) ∧ τ = τ13) else (∃ (r18 : Int32) (τ17 : sf_St), R_X0_areBonded τ13 (nI a) (nI b) r18 τ17 ∧ (if r18 = (0 : Int32) then (if (τ17 1 8) < (9 : Int32) then (∃ (r23 : Int32) (τ22 : sf_St), R_X0_freeValence τ17 (nI a) r23 τ22 ∧ (if r23 < a2 then (r = (-3 : Int32) ∧ τ = τ22) else (∃ (r27 : Int32) (τ26 : sf_St), R_X0_freeValence τ22 (nI b) r27 τ26 ∧ (if a2 ≤ r27 then (∀ τ29 : sf_St, τ29 = sf_up τ26 0 10 (0 : Int32) → (∃ (r32 : Int32) (τ31 : sf_St), R_X0_addBond τ29 (nI a) (nI b) a2 a3 r32 τ31 ∧ (r = r32 ∧ τ = τ31))) else (r = (-3 : Int32) ∧ τ = τ26))))) else (r = (-2 : Int32) ∧ τ = τ17)) else (r = (-1 : Int32) ∧ τ = τ17)))))))) ∧
      (if nI a = nI b then (r = (-1 : Int32) ∧ τ' = σ') else (if a2 < (1 : Int32) then (r = (-1 : Int32) ∧ τ' = σ') else (if (3 : Int32) < a2 then (r = (-1 : Int32) ∧ τ' = σ') else (if a3 < (0 : Int32) then (r = (-1 : Int32) ∧ τ' = σ') else (if (2 : Int32) < a3 then (r = (-1 : Int32) ∧ τ' = σ') else (∃ (r16 : Int32) (τ15 : sf_St), R_X7_bondOf σ' (nI a) (nI b) r16 τ15 ∧ (if r16 < (0 : Int32) then (if (τ15 0 4) = (9 : Int32) then (r = (-2 : Int32) ∧ τ' = τ15) else (∃ (r21 : Int32) (τ20 : sf_St), R_X7_left τ15 (nI a) r21 τ20 ∧ (if r21 < a2 then (r = (-3 : Int32) ∧ τ' = τ20) else (∃ (r25 : Int32) (τ24 : sf_St), R_X7_left τ20 (nI b) r25 τ24 ∧ (if a2 ≤ r25 then (vp_in (τ24 0 4) 9 ∧ (∀ τ28 : sf_St, τ28 = sf_up τ24 4 (sf_ix (τ24 0 4)) (nI a) → (vp_in (τ28 0 4) 9 ∧ (∀ τ30 : sf_St, τ30 = sf_up τ28 5 (sf_ix (τ28 0 4)) (nI b) → (vp_in (τ30 0 4) 9 ∧ (∀ τ32 : sf_St, τ32 = sf_up τ30 6 (sf_ix (τ30 0 4)) a2 → (vp_in (τ32 0 4) 9 ∧ (∀ τ34 : sf_St, τ34 = sf_up τ32 7 (sf_ix (τ32 0 4)) a3 → (∀ τ35 : sf_St, τ35 = sf_up τ34 0 4 ((τ34 0 4) + (1 : Int32)) → (∀ τ36 : sf_St, τ36 = sf_up τ35 0 11 (0 : Int32) → (r = ((τ36 0 4) - (1 : Int32)) ∧ τ' = τ36))))))))))) else (r = (-3 : Int32) ∧ τ' = τ24)))))) else (r = (-1 : Int32) ∧ τ' = τ15)))))))) ∧ Inv τ τ' by
    obtain ⟨r, τ, τ', s1, s2, s3⟩ := hs
    exact ⟨r, τ, τ', ⟨1, σ, sp_hasAtom_yes hw hc ha, by rw [if_neg n01]; exact ⟨1, σ, sp_hasAtom_yes hw hc hb, by rw [if_neg n01]; exact s1⟩⟩, ⟨1, σ', sp_mAtom_yes hw hm ha, by rw [if_neg n01]; exact ⟨1, σ', sp_mAtom_yes hw hm hb, by rw [if_neg n01]; exact s2⟩⟩, s3⟩
  by_cases hab : nI a = nI b
  · exact ⟨-1, σ, σ', by rw [if_pos hab]; exact ⟨rfl, rfl⟩, by rw [if_pos hab]; exact ⟨rfl, rfl⟩, hI⟩
  simp only [hab, if_false]
  by_cases ho1 : a2 < 1
  · exact ⟨-1, σ, σ', by rw [if_pos ho1]; exact ⟨rfl, rfl⟩, by rw [if_pos ho1]; exact ⟨rfl, rfl⟩, hI⟩
  simp only [ho1, if_false]
  by_cases ho3 : (3 : Int32) < a2
  · exact ⟨-1, σ, σ', by rw [if_pos ho3]; exact ⟨rfl, rfl⟩, by rw [if_pos ho3]; exact ⟨rfl, rfl⟩, hI⟩
  simp only [ho3, if_false]
  rcases sp_mark (u := a3) with h | ⟨m, hm2, rfl, u0, u2⟩
  · refine ⟨-1, σ, σ', ⟨0, σ, sp_isMark_no σ h, by simp⟩, ?_, hI⟩
    by_cases h0 : a3 < 0
    · simp [h0]
    · simp [h0, h.resolve_left h0]
  simp only [u0, u2, if_false]
  have hmk := sp_isMark_yes σ u0 u2
  obtain ⟨o, hol, hoh, rfl⟩ : ∃ o, 1 ≤ o ∧ o ≤ 3 ∧ a2 = nI o := by
    rcases pk_ix a2 (n := 4) (by decide) with h | h | ⟨o, h, h'⟩
    · exfalso
      apply ho1
      rw [Int32.lt_iff_toInt_lt] at h ⊢
      have e1 : (0 : Int32).toInt = 0 := by decide
      have e2 : (1 : Int32).toInt = 1 := by decide
      omega
    · exfalso
      apply ho3
      rw [Int32.lt_iff_toInt_lt]
      have := Int32.le_iff_toInt_le.mp h
      have e1 : (nI 4).toInt = 4 := by decide
      have e2 : (3 : Int32).toInt = 3 := by decide
      omega
    · subst h'
      have ho1' : ¬ o < 1 := fun q => ho1 (by rw [sq_lt1 (by omega)]; exact q)
      exact ⟨o, by omega, by omega, rfl⟩
  have har := sp_areBonded hw hc (a := a) (b := b) (by omega) (by omega)
  have hbo := sp_mBondOf hw hm (a := a) (b := b) (by omega) (by omega)
  cases hq : pd_bo d a b with
  | some k =>
    obtain ⟨hk, -⟩ := pd_bo_some hq
    have e1 : pd_lk d a b = k + 1 := by unfold pd_lk; rw [hq]
    have e2 : pd_bi d a b = nI k := by unfold pd_bi; rw [hq]
    rw [e1, if_neg (by omega)] at har
    rw [e2] at hbo
    refine ⟨-1, σ, σ', ⟨1, σ, hmk, ?_⟩, ⟨nI k, σ', hbo, ?_⟩, hI⟩
    · rw [if_neg n01]
      exact ⟨1, σ, har, by rw [if_neg n01]; exact ⟨rfl, rfl⟩⟩
    · rw [if_neg (show ¬ nI k < (0 : Int32) from by rw [sq_neg (by omega)]; exact fun h => h)]
      exact ⟨rfl, rfl⟩
  | none =>
    have e1 : pd_lk d a b = 0 := by unfold pd_lk; rw [hq]
    have e2 : pd_bi d a b = -1 := by unfold pd_bi; rw [hq]
    rw [e1, if_pos rfl] at har
    rw [e2] at hbo
    have n1 : (-1 : Int32) < 0 := by decide
    have hlf : ∀ x, x < pd_n d → pd_lf d x ≤ 4 := fun x _ => by
      unfold pd_lf
      have := pd_v_le (pd_e d x)
      omega
    have hla := hlf a ha
    have hlb := hlf b hb
    suffices hs : ∃ (r : Int32) (τ τ' : sf_St), (if (σ 1 8) < (9 : Int32) then (∃ (r23 : Int32) (τ22 : sf_St), R_X0_freeValence σ (nI a) r23 τ22 ∧ (if r23 < nI o then (r = (-3 : Int32) ∧ τ = τ22) else (∃ (r27 : Int32) (τ26 : sf_St), R_X0_freeValence τ22 (nI b) r27 τ26 ∧ (if nI o ≤ r27 then (∀ τ29 : sf_St, τ29 = sf_up τ26 0 10 (0 : Int32) → (∃ (r32 : Int32) (τ31 : sf_St), R_X0_addBond τ29 (nI a) (nI b) (nI o) (nI m) r32 τ31 ∧ (r = r32 ∧ τ = τ31))) else (r = (-3 : Int32) ∧ τ = τ26))))) else (r = (-2 : Int32) ∧ τ = σ)) ∧
        (if (σ' 0 4) = (9 : Int32) then (r = (-2 : Int32) ∧ τ' = σ') else (∃ (r21 : Int32) (τ20 : sf_St), R_X7_left σ' (nI a) r21 τ20 ∧ (if r21 < nI o then (r = (-3 : Int32) ∧ τ' = τ20) else (∃ (r25 : Int32) (τ24 : sf_St), R_X7_left τ20 (nI b) r25 τ24 ∧ (if nI o ≤ r25 then (vp_in (τ24 0 4) 9 ∧ (∀ τ28 : sf_St, τ28 = sf_up τ24 4 (sf_ix (τ24 0 4)) (nI a) → (vp_in (τ28 0 4) 9 ∧ (∀ τ30 : sf_St, τ30 = sf_up τ28 5 (sf_ix (τ28 0 4)) (nI b) → (vp_in (τ30 0 4) 9 ∧ (∀ τ32 : sf_St, τ32 = sf_up τ30 6 (sf_ix (τ30 0 4)) (nI o) → (vp_in (τ32 0 4) 9 ∧ (∀ τ34 : sf_St, τ34 = sf_up τ32 7 (sf_ix (τ32 0 4)) (nI m) → (∀ τ35 : sf_St, τ35 = sf_up τ34 0 4 ((τ34 0 4) + (1 : Int32)) → (∀ τ36 : sf_St, τ36 = sf_up τ35 0 11 (0 : Int32) → (r = ((τ36 0 4) - (1 : Int32)) ∧ τ' = τ36))))))))))) else (r = (-3 : Int32) ∧ τ' = τ24)))))) ∧ Inv τ τ' by
      obtain ⟨r, τ, τ', s1, s2, s3⟩ := hs
      refine ⟨r, τ, τ', ⟨1, σ, hmk, ?_⟩, ⟨-1, σ', hbo, ?_⟩, s3⟩
      · rw [if_neg n01]
        exact ⟨0, σ, har, by rw [if_pos rfl]; exact s1⟩
      · rw [if_pos n1]
        exact s2
    rw [hc.1.2, hm.1.2]
    simp (disch := omega) only [sq_lt9, sq_eq9]
    by_cases hb9 : pd_b d = 9
    · exact ⟨-2, σ, σ', by rw [if_neg (by omega)]; exact ⟨rfl, rfl⟩, by rw [if_pos hb9]; exact ⟨rfl, rfl⟩, hI⟩
    simp only [show pd_b d < 9 by omega, hb9, if_true, if_false]
    have c1 := sp_freeValence hw hc ha
    have c2 := sp_freeValence hw hc hb
    have m1 := sp_mLeft hw hm ha
    have m2 := sp_mLeft hw hm hb
    have ea : (nI (pd_lf d a) < nI o) ↔ pd_lf d a < o := by rw [sq_lt (by omega) (by omega)]
    have eb : (nI o ≤ nI (pd_lf d b)) ↔ o ≤ pd_lf d b := by rw [sq_le (by omega) (by omega)]
    by_cases la : pd_lf d a < o
    · exact ⟨-3, σ, σ', ⟨_, σ, c1, by rw [if_pos (ea.mpr la)]; exact ⟨rfl, rfl⟩⟩, ⟨_, σ', m1, by rw [if_pos (ea.mpr la)]; exact ⟨rfl, rfl⟩⟩, hI⟩
    by_cases lb : o ≤ pd_lf d b
    · refine ⟨nI (pd_b d), sf_up (sf_up (sf_up (sf_up (sf_up (sf_up (sf_up (sf_up σ 0 10 0) 5 (pd_b d) (nI a)) 6 (pd_b d) (nI b)) 7 (pd_b d) (nI o)) 8 (pd_b d) (nI m)) 1 8 (nI (pd_b d + 1))) (10 + a) b (nI (pd_b d + 1))) (10 + b) a (nI (pd_b d + 1)), sf_up (sf_up (sf_up (sf_up (sf_up (sf_up σ' 4 (pd_b d) (nI a)) 5 (pd_b d) (nI b)) 6 (pd_b d) (nI o)) 7 (pd_b d) (nI m)) 0 4 (nI (pd_b d + 1))) 0 11 0, ⟨_, σ, c1, ?_⟩, ⟨_, σ', m1, ?_⟩, ?_⟩
      · rw [if_neg (fun q => la (ea.mp q))]
        refine ⟨_, σ, c2, ?_⟩
        rw [if_pos (eb.mpr lb)]
        intro τ1 ht
        subst ht
        refine ⟨_, _, ?_, rfl, rfl⟩
        unfold R_X0_addBond
        have i9 : vp_in (nI (pd_b d)) 9 := sp_in (by omega) (by decide)
        have ia : vp_in (nI a) 7 := sp_in (by omega) (by decide)
        have ib : vp_in (nI b) 7 := sp_in (by omega) (by decide)
        have e8 : sf_up σ 0 10 0 1 8 = nI (pd_b d) := hc.1.2
        have e9 : (sf_up (sf_up (sf_up (sf_up (sf_up σ 0 10 0) 5 (pd_b d) (nI a)) 6 (pd_b d) (nI b)) 7 (pd_b d) (nI o)) 8 (pd_b d) (nI m)) 1 8 = nI (pd_b d) := hc.1.2
        simp only [forall_eq, e8, sp_ix (show pd_b d < 2 ^ 31 by omega), sp_ix (show a < 2 ^ 31 by omega), sp_ix (show b < 2 ^ 31 by omega)]
        simp only [e9, sp_inc]
        refine ⟨i9, i9, i9, i9, ia, ib, ib, ia, by trivial, ?_⟩
        have e10 : ∀ s : sf_St, sf_up s 1 8 (nI (pd_b d + 1)) 1 8 = nI (pd_b d + 1) := fun s => by rw [sf_up_at, if_pos rfl, if_pos rfl]
        have e11 : ∀ (s : sf_St) (v : Int32), sf_up s (10 + a) b v 1 8 = s 1 8 := fun s v => by rw [sf_up_at, if_neg (by omega)]
        rw [e11, e10]
      · rw [if_neg (fun q => la (ea.mp q))]
        refine ⟨_, σ', m2, ?_⟩
        rw [if_pos (eb.mpr lb)]
        have i9 : vp_in (nI (pd_b d)) 9 := sp_in (by omega) (by decide)
        have hx := hm.1.2
        simp only [forall_eq, hx, sp_ix (show pd_b d < 2 ^ 31 by omega)]
        have f1 : (sf_up σ' 4 (pd_b d) (nI a)) 0 4 = nI (pd_b d) := hx
        simp only [f1, sp_ix (show pd_b d < 2 ^ 31 by omega)]
        have f2 : (sf_up (sf_up σ' 4 (pd_b d) (nI a)) 5 (pd_b d) (nI b)) 0 4 = nI (pd_b d) := hx
        simp only [f2, sp_ix (show pd_b d < 2 ^ 31 by omega)]
        have f3 : (sf_up (sf_up (sf_up σ' 4 (pd_b d) (nI a)) 5 (pd_b d) (nI b)) 6 (pd_b d) (nI o)) 0 4 = nI (pd_b d) := hx
        simp only [f3, sp_ix (show pd_b d < 2 ^ 31 by omega)]
        have f4 : (sf_up (sf_up (sf_up (sf_up σ' 4 (pd_b d) (nI a)) 5 (pd_b d) (nI b)) 6 (pd_b d) (nI o)) 7 (pd_b d) (nI m)) 0 4 = nI (pd_b d) := hx
        simp only [f4, sp_inc]
        refine ⟨i9, i9, i9, i9, ?_, by trivial⟩
        show nI (pd_b d) = nI (pd_b d + 1) - 1
        exact (nI_pred _).symm
      · have hab' : a ≠ b := fun q => hab (by rw [q])
        have eF : ∀ (s : sf_St) (v w : Int32) (c : Nat), (c < 10 ∨ 17 ≤ c) → sf_up (sf_up s (10 + a) b v) (10 + b) a w c = s c := fun s v w c h => by
          rw [sf_up_ne _ _ _ (show c ≠ 10 + b by omega), sf_up_ne _ _ _ (show c ≠ 10 + a by omega)]
        refine ⟨pd_bd d a b o m, pd_bd_W hw ha hb hab' hol hoh hm2 hq (by omega) (by omega) lb, ⟨⟨?_, ?_⟩, ?_, fun i hi => ?_, fun x y hx hy => ?_⟩, ⟨⟨hm.1.1, rfl⟩, hm.2.1, fun i hi => ?_⟩, Or.inl ?_, Or.inl rfl, ?_, ?_, ?_⟩
        · rw [eF _ _ _ 1 (by omega)]; exact hc.1.1
        · rw [sf_up_at, if_neg (by omega), sf_up_at, if_neg (by omega)]; rfl
        · rw [eF _ _ _ 2 (by omega), eF _ _ _ 3 (by omega), eF _ _ _ 4 (by omega)]; exact hc.2.1
        · rw [sf_up_ne _ _ _ (show 5 ≠ 10 + b by omega), sf_up_ne _ _ _ (show 5 ≠ 10 + a by omega), sf_up_ne _ _ _ (show 6 ≠ 10 + b by omega), sf_up_ne _ _ _ (show 6 ≠ 10 + a by omega), sf_up_ne _ _ _ (show 7 ≠ 10 + b by omega), sf_up_ne _ _ _ (show 7 ≠ 10 + a by omega), sf_up_ne _ _ _ (show 8 ≠ 10 + b by omega), sf_up_ne _ _ _ (show 8 ≠ 10 + a by omega)]
          show (if i = pd_b d then nI a else σ 5 i) = nI (if i = pd_b d then a else pd_f d i) ∧ (if i = pd_b d then nI b else σ 6 i) = nI (if i = pd_b d then b else pd_s d i) ∧ (if i = pd_b d then nI o else σ 7 i) = nI (if i = pd_b d then o else pd_o d i) ∧ (if i = pd_b d then nI m else σ 8 i) = nI (if i = pd_b d then m else pd_m d i)
          by_cases hik : i = pd_b d
          · simp only [hik, if_true]
            exact ⟨by trivial, by trivial, by trivial, by trivial⟩
          · simp only [hik, if_false]
            exact hc.2.2.1 i (by have h1 : i < pd_b d + 1 := hi; omega)
        · have el : pd_lk (pd_bd d a b o m) x y = if pd_ab a b x y = true then pd_b d + 1 else pd_lk d x y := by
            unfold pd_lk
            rw [pd_bd_bo hq]
            by_cases hq1 : pd_ab a b x y = true
            · simp only [hq1, if_true]
            · rw [if_neg hq1, if_neg hq1]
          have hxy := hc.2.2.2 x y hx hy
          have eold : (sf_up (sf_up (sf_up (sf_up (sf_up (sf_up σ 0 10 0) 5 (pd_b d) (nI a)) 6 (pd_b d) (nI b)) 7 (pd_b d) (nI o)) 8 (pd_b d) (nI m)) 1 8 (nI (pd_b d + 1))) (10 + x) y = σ (10 + x) y := by
            rw [sf_up_ne _ _ _ (show 10 + x ≠ 1 by omega), sf_up_ne _ _ _ (show 10 + x ≠ 8 by omega), sf_up_ne _ _ _ (show 10 + x ≠ 7 by omega), sf_up_ne _ _ _ (show 10 + x ≠ 6 by omega), sf_up_ne _ _ _ (show 10 + x ≠ 5 by omega), sf_up_ne _ _ _ (show 10 + x ≠ 0 by omega)]
          rw [el]
          by_cases hq1 : pd_ab a b x y = true
          · rw [if_pos hq1]
            simp only [pd_ab, Bool.or_eq_true, Bool.and_eq_true, beq_iff_eq] at hq1
            rcases hq1 with ⟨rfl, rfl⟩ | ⟨rfl, rfl⟩
            · rw [sf_up_at, if_neg (by omega), sf_up_at, if_pos rfl, if_pos rfl]
            · rw [sf_up_at, if_pos rfl, if_pos rfl]
          · rw [if_neg hq1]
            simp only [pd_ab, Bool.or_eq_true, Bool.and_eq_true, beq_iff_eq] at hq1
            rw [← hxy, ← eold]
            generalize sf_up (sf_up (sf_up (sf_up (sf_up (sf_up σ 0 10 0) 5 (pd_b d) (nI a)) 6 (pd_b d) (nI b)) 7 (pd_b d) (nI o)) 8 (pd_b d) (nI m)) 1 8 (nI (pd_b d + 1)) = s
            rw [sf_up_at]
            by_cases hx1 : 10 + x = 10 + b
            · rw [if_pos hx1, if_neg (by omega), sf_up_at, if_neg (by omega)]
            · rw [if_neg hx1, sf_up_at]
              by_cases hx2 : 10 + x = 10 + a
              · rw [if_pos hx2, if_neg (by omega)]
              · rw [if_neg hx2]
        · show (if i = pd_b d then nI a else σ' 4 i) = nI (if i = pd_b d then a else pd_f d i) ∧ (if i = pd_b d then nI b else σ' 5 i) = nI (if i = pd_b d then b else pd_s d i) ∧ (if i = pd_b d then nI o else σ' 6 i) = nI (if i = pd_b d then o else pd_o d i) ∧ (if i = pd_b d then nI m else σ' 7 i) = nI (if i = pd_b d then m else pd_m d i)
          by_cases hik : i = pd_b d
          · simp only [hik, if_true]
            exact ⟨by trivial, by trivial, by trivial, by trivial⟩
          · simp only [hik, if_false]
            exact hm.2.2 i (by have h1 : i < pd_b d + 1 := hi; omega)
        · rw [sf_up_ne _ _ _ (show 0 ≠ 10 + b by omega), sf_up_ne _ _ _ (show 0 ≠ 10 + a by omega)]; rfl
        · unfold iv_K
          rw [eF _ _ _ 38 (by omega), eF _ _ _ 39 (by omega)]
          exact hK
        · unfold iv_T
          rw [eF _ _ _ 43 (by omega), eF _ _ _ 44 (by omega)]
          exact hT
        · unfold iv_B
          rw [eF _ _ _ 20 (by omega), eF _ _ _ 25 (by omega)]
          exact hB
    · refine ⟨-3, σ, σ', ⟨_, σ, c1, ?_⟩, ⟨_, σ', m1, ?_⟩, hI⟩
      · rw [if_neg (fun q => la (ea.mp q))]
        exact ⟨_, σ, c2, by rw [if_neg (fun q => lb (eb.mp q))]; exact ⟨rfl, rfl⟩⟩
      · rw [if_neg (fun q => la (ea.mp q))]
        exact ⟨_, σ', m2, by rw [if_neg (fun q => lb (eb.mp q))]; exact ⟨rfl, rfl⟩⟩
