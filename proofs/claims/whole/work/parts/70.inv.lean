/-! what holds between the calls: one drawing that both states show; what each of them has kept of it; the form that was kept; the text -/
def iI (z : Int) : Int32 := Int32.ofInt z
def pd_num (π : List Nat) (a : Nat) : Nat := π.idxOf a
def pd_nl (d : pd_D) (a ex : Nat) : List Nat := (List.range (pd_n d)).filter (fun b => (pd_bo d a b).isSome && !(b == ex))
def pd_os (d : pd_D) (num : Nat → Nat) (a ex : Nat) : Int := ps_sg num (pd_nl d a ex)
def pd_z (d : pd_D) (a p : Nat) : Int := match pd_bo d a p with
  | some k => if pd_f d k = a then (if pd_m d k = 1 then 1 else if pd_m d k = 2 then -1 else 0) else 0
  | none => 0
def pd_cL (d : pd_D) (a : Nat) (L : List Nat) : Int := Int.sign (ps_D (fun p => pd_x d p - pd_x d a) (fun p => pd_y d p - pd_y d a) (pd_z d a) L)
def pd_cs (d : pd_D) (a : Nat) : Int := if pd_ce d a = true then pd_cL d a (pd_nl d a (pd_n d)) else 0
def pd_sd (d : pd_D) (a b p : Nat) : Int := Int.sign ((pd_x d b - pd_x d a) * (pd_y d p - pd_y d a) - (pd_y d b - pd_y d a) * (pd_x d p - pd_x d a))
def pd_en (d : pd_D) (a b : Nat) (L : List Nat) : Int := match L with
  | [p] => pd_sd d a b p
  | [p, q] => if pd_sd d a b p = 0 ∨ pd_sd d a b q = 0 ∨ pd_sd d a b p = pd_sd d a b q then 0 else pd_sd d a b p
  | _ => 0
def pd_hs (d : pd_D) (k : Nat) : Int := if pd_hi d k = true then pd_en d (min (pd_f d k) (pd_s d k)) (max (pd_f d k) (pd_s d k)) (pd_nl d (min (pd_f d k) (pd_s d k)) (max (pd_f d k) (pd_s d k))) * pd_en d (min (pd_f d k) (pd_s d k)) (max (pd_f d k) (pd_s d k)) (pd_nl d (max (pd_f d k) (pd_s d k)) (min (pd_f d k) (pd_s d k))) else 0
def pd_dg (c : Nat) (s : Int) : Nat := (3 * (c : Int) + s + 1).toNat
/-- the hinges in the order of a numbering -/
def pd_hl (d : pd_D) (π : List Nat) : List Nat := (List.range π.length).flatMap (fun i => (List.range i).filterMap (fun j => (pd_bo d (π.getD i 0) (π.getD j 0)).filter (fun k => pd_hi d k)))
def pd_code (d : pd_D) (A B : Nat → Int) (π : List Nat) : Nat :=
  (pd_hl d π).foldl (fun c k => pd_dg c (B k * pd_os d (pd_num π) (pd_f d k) (pd_s d k) * pd_os d (pd_num π) (pd_s d k) (pd_f d k))) (π.foldl (fun c a => pd_dg c (A a * pd_os d (pd_num π) a (pd_n d))) 0)
def pd_hd (d : pd_D) (a : Nat) : Nat := 65536 * (8 * pd_e d a + pd_lf d a)
def pd_row (d : pd_D) (pre : List Nat) (a : Nat) : Nat := pd_hd d a + pd_sum (fun j => pd_or d a (pre.getD j 0) * 4 ^ j) pre.length
def pd_K (d : pd_D) : List Nat × List (List Nat) := (pm_ext (pd_n d) (pd_n d) []).foldl (pm_rst (pd_row d)) ([], [])
def pd_mf (d : pd_D) (A B : Nat → Int) : Nat × List Nat := pm_mf (pd_code d A B) (pd_K d).2 (pm_OP, [])
def pd_pk (π : List Nat) : Nat := π.foldr (fun a v => a + 8 * v) 0
def cS (d : pd_D) (σ : sf_St) : Prop := (∀ a, a < pd_n d → σ 18 a = iI (pd_cs d a)) ∧ (∀ k, k < pd_b d → σ 19 k = iI (pd_hs d k) ∧ σ 20 k = if pd_hi d k = true then 1 else 0) ∧
  (σ 36 0 = nI (pd_n d) ∧ σ 36 2 = nI (pd_mf d (pd_cs d) (pd_hs d)).1 ∧ σ 0 9 = nI (pd_mf d (fun a => - pd_cs d a) (pd_hs d)).1) ∧
  (∀ i, i < pd_n d → σ 37 i = nI ((pd_K d).1.getD i 0) ∧ σ 28 i = nI ((pd_K d).1.getD i 0)) ∧ (∀ a, a < pd_n d → σ 35 a = nI (pd_hd d a)) ∧
  (∀ i, i < pd_n d → σ 41 i = nI ((pd_mf d (pd_cs d) (pd_hs d)).2.getD i 0) ∧ σ 42 ((pd_mf d (pd_cs d) (pd_hs d)).2.getD i 0) = nI i)
def mS (d : pd_D) (σ : sf_St) : Prop := σ 0 13 = nI (if pd_n d = 0 then 0 else (pd_K d).2.length) ∧ (∀ i, i < pd_n d → σ 10 i = nI ((pd_K d).1.getD i 0)) ∧ (∀ j, pd_n d ≠ 0 → j < (pd_K d).2.length → σ 11 j = nI (pd_pk ((pd_K d).2.getD j [])))
def iv_C (d : pd_D) (σ : sf_St) : Prop := σ 0 10 = 0 ∨ (σ 0 10 = 1 ∧ cS d σ)
def iv_M (d : pd_D) (σ : sf_St) : Prop := σ 0 11 = 0 ∨ (σ 0 11 = 1 ∧ mS d σ)
def iv_K (σ σ' : sf_St) : Prop := (σ 38 0 = -1 ∧ σ' 0 15 = 0) ∨ (∃ k, k ≤ 7 ∧ σ 38 0 = nI k ∧ σ' 0 15 = 1 ∧ σ' 0 16 = nI k ∧ (∀ i, i < k → σ 39 i = σ' 12 i) ∧ σ 38 2 = σ' 0 18)
def iv_T (σ σ' : sf_St) : Prop := ∃ L, L ≤ 80 ∧ σ 43 1 = nI L ∧ σ' 0 19 = nI L ∧ ∀ i, i < L → σ 44 i = σ' 13 i
def iv_B (σ : sf_St) : Prop := ∀ k, k < 9 → (σ 20 k = 0 ∨ σ 20 k = 1) ∧ (σ 25 k = 0 ∨ σ 25 k = 1)
def Inv (σ σ' : sf_St) : Prop := ∃ d, pd_W d ∧ cD d σ ∧ mD d σ' ∧ iv_C d σ ∧ iv_M d σ' ∧ iv_K σ σ' ∧ iv_T σ σ' ∧ iv_B σ
theorem iI_toInt {z : Int} (h1 : -2 ^ 31 ≤ z) (h2 : z < 2 ^ 31) : (iI z).toInt = z := Int32.toInt_ofInt_of_le h1 h2
theorem iI_of (x : Int32) : iI x.toInt = x := by
  apply Int32.toInt_inj.mp
  have h1 := Int32.le_toInt x
  have h2 := Int32.toInt_lt x
  exact iI_toInt h1 h2
/-- the start -/
def pd_0 : pd_D := ((0, 0), (fun _ => 0, fun _ => 0, fun _ => 0), (fun _ => 0, fun _ => 0, fun _ => 0, fun _ => 0))
theorem inv_0 : Inv sf_σX sf_σM := by
  refine ⟨pd_0, ?_, ?_, ?_, Or.inl rfl, Or.inl rfl, Or.inl ⟨rfl, rfl⟩, ⟨0, by decide, rfl, rfl, fun i h => by omega⟩, fun k hk => ⟨Or.inl rfl, Or.inl rfl⟩⟩
  · refine ⟨⟨by decide, by decide⟩, fun i hi => absurd hi (Nat.not_lt_zero _), fun k hk => absurd hk (Nat.not_lt_zero _), fun i j a b hi => absurd hi (Nat.not_lt_zero _), fun a ha => absurd ha (Nat.not_lt_zero _)⟩
  · refine ⟨⟨rfl, rfl⟩, fun i hi => absurd hi (Nat.not_lt_zero _), fun k hk => absurd hk (Nat.not_lt_zero _), fun a c ha hc => ?_⟩
    have hl : pd_lk pd_0 a c = 0 := rfl
    rw [hl]
    unfold sf_σX
    rw [if_neg (by omega), if_neg (by omega), if_neg (by omega)]
    rfl
  · exact ⟨⟨rfl, rfl⟩, fun i hi => absurd hi (Nat.not_lt_zero _), fun k hk => absurd hk (Nat.not_lt_zero _)⟩
/-- a number that a call is given: too small, too large, or that of an atom -/
theorem op_at (σ σ' : sf_St) (a0 : Int32) (h : Inv σ σ') : ∃ (r : Int32) (τ τ' : sf_St), R_X6_at σ a0 r τ ∧ R_X7_at σ' a0 r τ' ∧ Inv τ τ' := by
  obtain ⟨d, hw, hc, hm, hC, hM, hK, hT, hB⟩ := h
  have hT' := hT
  obtain ⟨L, hL, h1, h2, h3⟩ := hT'
  have hI : Inv σ σ' := ⟨d, hw, hc, hm, hC, hM, hK, hT, hB⟩
  unfold R_X6_at R_X7_at
  rw [h1, h2]
  rcases pk_ix a0 (n := L) (by omega) with h | h | ⟨j, hj, rfl⟩
  · exact ⟨-1, σ, σ', by simp [h], by simp [h], hI⟩
  · by_cases h0 : a0 < 0
    · exact ⟨-1, σ, σ', by simp [h0], by simp [h0], hI⟩
    · exact ⟨-1, σ, σ', by simp [h0, h], by simp [h0, h], hI⟩
  · have e1 : (nI j < (0 : Int32)) = False := sq_neg (by omega)
    have e2 : (nI L ≤ nI j) = False := by rw [sq_le (by omega) (by omega)]; simp; omega
    refine ⟨σ 44 j, σ, σ', ?_, ?_, hI⟩
    · simp only [e1, e2, if_false, sp_ix (show j < 2 ^ 31 by omega)]
      exact ⟨sp_in (by omega) (by decide), trivial, trivial⟩
    · simp only [e1, e2, if_false, sp_ix (show j < 2 ^ 31 by omega)]
      exact ⟨sp_in (by omega) (by decide), h3 j hj, trivial⟩
