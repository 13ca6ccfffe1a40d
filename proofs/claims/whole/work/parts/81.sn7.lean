/-! the class: the sign of an order, the senses' code -/
theorem nI_iI (m : Nat) : nI m = iI (m : Int) := by
  apply Int32.toBitVec_inj.mp
  show BitVec.ofNat 32 m = BitVec.ofInt 32 (m : Int)
  exact (BitVec.ofInt_natCast 32 m).symm
def p3 (z : Int) : Prop := z = -1 ∨ z = 0 ∨ z = 1
theorem p3_mul {u v : Int} (hu : p3 u) (hv : v = 1 ∨ v = -1) : p3 (u * v) := by
  unfold p3 at *
  rcases hv with rfl | rfl <;> rcases hu with rfl | rfl | rfl <;> simp
theorem pd_dg_I (c : Nat) {s : Int} (h : p3 s) : (3 : Int32) * nI c + iI s + 1 = nI (pd_dg c s) := by
  unfold pd_dg p3 at *
  have e3 : (3 : Int32) = iI 3 := rfl
  rw [nI_iI c, nI_iI, e3, iI_1, iI_mul, iI_add, iI_add, Int.toNat_of_nonneg (by omega)]
theorem ps_ql_snoc (num : Nat → Nat) (z y : Nat) : ∀ L : List Nat, ps_ql num z (L ++ [y]) = ps_ql num z L * ps_s num y z := by
  intro L
  induction L with
  | nil => simp [ps_ql]
  | cons x L ih =>
    show ps_s num x z * ps_ql num z (L ++ [y]) = ps_s num x z * ps_ql num z L * ps_s num y z
    rw [ih, Int.mul_assoc]
section SN7
variable {d : pd_D} {σ : sf_St}
def cNn (d : pd_D) (nn : Nat) (num : Nat → Nat) (σ : sf_St) : Prop := ∀ b, b < pd_n d → σ nn b = nI (num b) ∧ num b < 2 ^ 31
def pd_Lk (d : pd_D) (a ex k : Nat) : List Nat := (List.range k).filter (pd_P d a ex)
theorem pd_Lk_succ (d : pd_D) (a ex k : Nat) : pd_Lk d a ex (k + 1) = pd_Lk d a ex k ++ (if pd_P d a ex k = true then [k] else []) := by
  unfold pd_Lk
  rw [List.range_succ, List.filter_append]
  simp [List.filter_cons]
theorem sp_orderSign_2 (h : pd_W d) (hc : cD d σ) {na nn : Nat} {num : Nat → Nat} (hn : cNn d nn num σ) {a ex : Nat} (ha : a < pd_n d) {exI : Int32} (he : ∀ b, b < pd_n d → (nI b = exI ↔ b = ex)) {r : Int32} {τ : sf_St} {q : Nat} (hq : q < pd_n d) (S : Int)
    (hx : Rn_R_X2_orderSign na nn 1 σ (nI a) exI (iI (S * ps_ql num q (pd_Lk d a ex q))) (nI (q + 1)) 0 r τ) : ∀ m k, k + m = q →
    Rn_R_X2_orderSign na nn 2 σ (nI a) exI (iI (S * ps_ql num q (pd_Lk d a ex k))) (nI q) (nI k) r τ := by
  have h7 := h.1.1
  have ia : vp_in (nI a) 7 := sp_in (by omega) (by decide)
  intro m
  induction m with
  | zero =>
    intro k hk
    have hk' : k = q := by omega
    subst hk'
    apply ru_R_X2_orderSign_2
    unfold tr_R_X2_orderSign_2
    refine ⟨ia, ?_⟩
    rw [if_pos (nI_le (by omega) (by omega))]
    intro y hy
    rw [sp_inc] at hy
    subst hy
    exact hx
  | succ m ih =>
    intro k hk
    have hkn : k < pd_n d := by omega
    have ih' := ih (k + 1) (by omega)
    rw [pd_Lk_succ] at ih'
    have ik : vp_in (nI k) 7 := sp_in (by omega) (by decide)
    have iq : vp_in (nI q) 7 := sp_in (by omega) (by decide)
    apply ru_R_X2_orderSign_2
    unfold tr_R_X2_orderSign_2
    refine ⟨ia, ?_⟩
    rw [if_neg (nI_ge (by omega) (by omega))]
    by_cases hke : k = ex
    · rw [if_pos ((he k hkn).mpr hke)]
      have hP : pd_P d a ex k = false := by unfold pd_P; simp [hke]
      rw [hP] at ih'
      simp only [Bool.false_eq_true, if_false, List.append_nil] at ih'
      intro y hy
      rw [sp_inc] at hy
      subst hy
      exact ih'
    · rw [if_neg (fun w => hke ((he k hkn).mp w)), sp_ix (by omega), sp_ix (by omega), hc.2.2.2 a k (by omega) (by omega)]
      refine ⟨ik, ?_⟩
      cases hb : pd_bo d a k with
      | none =>
        have e1 : pd_lk d a k = 0 := by unfold pd_lk; rw [hb]
        have hP : pd_P d a ex k = false := by unfold pd_P; simp [hb]
        rw [hP] at ih'
        simp only [Bool.false_eq_true, if_false, List.append_nil] at ih'
        rw [e1, if_pos (by decide)]
        intro y hy
        rw [sp_inc] at hy
        subst hy
        exact ih'
      | some j =>
        have e1 : pd_lk d a k = j + 1 := by unfold pd_lk; rw [hb]
        have hj := (pd_bo_some hb).1
        have h9 := h.1.2
        have hP : pd_P d a ex k = true := by unfold pd_P; simp [hb, hke]
        rw [hP, if_pos rfl, ps_ql_snoc] at ih'
        rw [e1, if_neg (nI_ne0 (by omega) (by omega)), sp_ix (by omega), (hn k hkn).1, (hn q hq).1]
        refine ⟨ik, iq, ?_⟩
        have n1 := (hn k hkn).2
        have n2 := (hn q hq).2
        unfold ps_s at ih'
        by_cases hlt : num q < num k
        · rw [if_neg (nI_ge hlt n1)]
          rw [if_pos hlt] at ih'
          intro y hy z hz
          rw [sp_inc] at hz
          rw [iI_neg] at hy
          subst hy
          subst hz
          have e : -(S * ps_ql num q (pd_Lk d a ex k)) = S * (ps_ql num q (pd_Lk d a ex k) * -1) := by grind
          rw [e]
          exact ih'
        · rw [if_pos (nI_le (by omega) n2)]
          rw [if_neg hlt, Int.mul_one] at ih'
          intro z hz
          rw [sp_inc] at hz
          subst hz
          exact ih'
theorem sp_orderSign_1 (h : pd_W d) (hc : cD d σ) {na nn : Nat} {num : Nat → Nat} (hn : cNn d nn num σ) {a ex : Nat} (ha : a < pd_n d) {exI : Int32} (he : ∀ b, b < pd_n d → (nI b = exI ↔ b = ex)) : ∀ m k, k + m = pd_n d →
    Rn_R_X2_orderSign na nn 1 σ (nI a) exI (iI (ps_sg num (pd_Lk d a ex k))) (nI k) 0 (iI (pd_os d num a ex)) σ := by
  have h7 := h.1.1
  have ia : vp_in (nI a) 7 := sp_in (by omega) (by decide)
  intro m
  induction m with
  | zero =>
    intro k hk
    have hk' : k = pd_n d := by omega
    subst hk'
    apply ru_R_X2_orderSign_1
    unfold tr_R_X2_orderSign_1
    refine ⟨ia, ?_⟩
    rw [hc.1.1, if_pos (nI_le (by omega) (by omega))]
    exact ⟨rfl, rfl⟩
  | succ m ih =>
    intro k hk
    have hkn : k < pd_n d := by omega
    have ih' := ih (k + 1) (by omega)
    rw [pd_Lk_succ] at ih'
    have ik : vp_in (nI k) 7 := sp_in (by omega) (by decide)
    apply ru_R_X2_orderSign_1
    unfold tr_R_X2_orderSign_1
    refine ⟨ia, ?_⟩
    rw [hc.1.1, if_neg (nI_ge (by omega) (by omega))]
    by_cases hke : k = ex
    · rw [if_pos ((he k hkn).mpr hke)]
      have hP : pd_P d a ex k = false := by unfold pd_P; simp [hke]
      rw [hP] at ih'
      simp only [Bool.false_eq_true, if_false, List.append_nil] at ih'
      intro y hy
      rw [sp_inc] at hy
      subst hy
      exact ih'
    · rw [if_neg (fun w => hke ((he k hkn).mp w)), sp_ix (by omega), sp_ix (by omega), hc.2.2.2 a k (by omega) (by omega)]
      refine ⟨ik, ?_⟩
      cases hb : pd_bo d a k with
      | none =>
        have e1 : pd_lk d a k = 0 := by unfold pd_lk; rw [hb]
        have hP : pd_P d a ex k = false := by unfold pd_P; simp [hb]
        rw [hP] at ih'
        simp only [Bool.false_eq_true, if_false, List.append_nil] at ih'
        rw [e1, if_pos (by decide)]
        intro y hy
        rw [sp_inc] at hy
        subst hy
        exact ih'
      | some j =>
        have e1 : pd_lk d a k = j + 1 := by unfold pd_lk; rw [hb]
        have hj := (pd_bo_some hb).1
        have h9 := h.1.2
        have hP : pd_P d a ex k = true := by unfold pd_P; simp [hb, hke]
        rw [hP, if_pos rfl, ps_sg_snoc] at ih'
        rw [e1, if_neg (nI_ne0 (by omega) (by omega))]
        have := sp_orderSign_2 (na := na) h hc hn ha he hkn (ps_sg num (pd_Lk d a ex k)) ih' k 0 (by omega)
        have e0 : pd_Lk d a ex 0 = [] := rfl
        rw [e0] at this
        have e2 : ps_sg num (pd_Lk d a ex k) * ps_ql num k [] = ps_sg num (pd_Lk d a ex k) := Int.mul_one _
        rw [e2] at this
        exact this
theorem sp_orderSign (h : pd_W d) (hc : cD d σ) {na nn : Nat} {num : Nat → Nat} (hn : cNn d nn num σ) {a ex : Nat} (ha : a < pd_n d) {exI : Int32} (he : ∀ b, b < pd_n d → (nI b = exI ↔ b = ex)) : R_X2_orderSign na nn σ (nI a) exI (iI (pd_os d num a ex)) σ := by
  have h7 := h.1.1
  unfold R_X2_orderSign
  apply ru_R_X2_orderSign_0
  unfold tr_R_X2_orderSign_0
  exact ⟨sp_in (by omega) (by decide), sp_orderSign_1 h hc hn ha he (pd_n d) 0 (by omega)⟩
theorem sp_he_m1 (h : pd_W d) : ∀ b, b < pd_n d → (nI b = (-1 : Int32) ↔ b = pd_n d) := by
  have h7 := h.1.1
  intro b hb
  constructor
  · intro q; exact absurd q (sp_m1 (by omega))
  · intro q; omega
theorem sp_he_at (h : pd_W d) {c : Nat} (hcn : c < pd_n d) : ∀ b, b < pd_n d → (nI b = nI c ↔ b = c) := by
  have h7 := h.1.1
  intro b hb
  exact nI_eq (by omega) (by omega)
theorem p3_0 {z : Int} (h : p3 z) : (iI z = (0 : Int32)) ↔ z = 0 := by
  rcases h with rfl | rfl | rfl <;> decide
theorem sp_nSenseOfAtom (h : pd_W d) (hc : cD d σ) {na nn sa sb sh sr : Nat} {num : Nat → Nat} (hn : cNn d nn num σ) {A : Nat → Int} {a : Nat} (ha : a < pd_n d) (hA : σ sa a = iI (A a)) (hA3 : p3 (A a)) : R_X2_senseOfAtom na nn sa sb sh sr σ (nI a) (iI (A a * pd_os d num a (pd_n d))) σ := by
  have h7 := h.1.1
  unfold R_X2_senseOfAtom
  rw [sp_ix (by omega), hA]
  refine ⟨sp_in (by omega) (by decide), ?_⟩
  intro y hy
  subst hy
  by_cases h0 : A a = 0
  · rw [if_pos ((p3_0 hA3).mpr h0), h0, Int.zero_mul]; exact ⟨rfl, rfl⟩
  · rw [if_neg (fun q => h0 ((p3_0 hA3).mp q))]
    exact ⟨_, σ, sp_orderSign h hc hn ha (sp_he_m1 h), (iI_mul _ _).symm, rfl⟩
theorem sp_nSenseOfBond (h : pd_W d) (hc : cD d σ) {na nn sa sb sh sr : Nat} {num : Nat → Nat} (hn : cNn d nn num σ) {B : Nat → Int} {k : Nat} (hk : k < pd_b d) (hB : σ sb k = iI (B k)) (hB3 : p3 (B k)) : R_X2_senseOfBond na nn sa sb sh sr σ (nI k) (iI (B k * pd_os d num (pd_f d k) (pd_s d k) * pd_os d num (pd_s d k) (pd_f d k))) σ := by
  have h9 := h.1.2
  obtain ⟨w1, w2, -⟩ := h.2.2.1 k hk
  obtain ⟨q1, q2, -⟩ := hc.2.2.1 k hk
  have ik : vp_in (nI k) 9 := sp_in (by omega) (by decide)
  unfold R_X2_senseOfBond
  rw [sp_ix (by omega), hB]
  refine ⟨ik, ?_⟩
  intro y hy
  subst hy
  by_cases h0 : B k = 0
  · rw [if_pos ((p3_0 hB3).mpr h0), h0, Int.zero_mul, Int.zero_mul]; exact ⟨rfl, rfl⟩
  · rw [if_neg (fun q => h0 ((p3_0 hB3).mp q)), q1, q2]
    refine ⟨ik, ?_⟩
    intro y hy
    subst hy
    refine ⟨ik, ?_⟩
    intro y hy
    subst hy
    refine ⟨_, σ, sp_orderSign h hc hn w1 (sp_he_at h w2), _, σ, sp_orderSign h hc hn w2 (sp_he_at h w1), ?_, rfl⟩
    rw [iI_mul, iI_mul]
theorem pd_os_pm (d : pd_D) (num : Nat → Nat) (a ex : Nat) : pd_os d num a ex = 1 ∨ pd_os d num a ex = -1 := ps_sg_pm _ _
/-- the code -/
def cd_A (d : pd_D) (A : Nat → Int) (π : List Nat) (c a : Nat) : Nat := pd_dg c (A a * pd_os d (pd_num π) a (pd_n d))
def cd_B (d : pd_D) (B : Nat → Int) (π : List Nat) (c k : Nat) : Nat := pd_dg c (B k * pd_os d (pd_num π) (pd_f d k) (pd_s d k) * pd_os d (pd_num π) (pd_s d k) (pd_f d k))
def cd_h (d : pd_D) (π : List Nat) (i j : Nat) : Option Nat := (pd_bo d (π.getD i 0) (π.getD j 0)).filter (fun k => pd_hi d k)
def cd_H (d : pd_D) (π : List Nat) (i : Nat) : List Nat := (List.range i).flatMap (fun i => (List.range i).filterMap (cd_h d π i))
def cd_J (d : pd_D) (π : List Nat) (i j : Nat) : List Nat := (List.range j).filterMap (cd_h d π i)
theorem cd_H_succ (d : pd_D) (π : List Nat) (i : Nat) : cd_H d π (i + 1) = cd_H d π i ++ cd_J d π i i := by
  unfold cd_H cd_J
  rw [List.range_succ, List.flatMap_append]
  simp
theorem cd_J_succ (d : pd_D) (π : List Nat) (i j : Nat) : cd_J d π i (j + 1) = cd_J d π i j ++ (cd_h d π i j).toList := by
  unfold cd_J
  rw [List.range_succ, List.filterMap_append]
  cases h : cd_h d π i j <;> simp [h]
theorem pd_code_eq (d : pd_D) (A B : Nat → Int) (π : List Nat) : pd_code d A B π = (cd_H d π π.length).foldl (cd_B d B π) (π.foldl (cd_A d A π) 0) := rfl
end SN7
