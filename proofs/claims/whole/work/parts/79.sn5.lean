/-! senses of hinges: the reference; the call turn -/
def pd_ot (d : pd_D) (e k : Nat) : Nat := if pd_f d k = e then pd_s d k else pd_f d k
def pd_cn (d : pd_D) (a b e o : Nat) (z : Int) (k : Nat) : Bool := pd_inc d k e && !(pd_ot d e k == o) && decide (pd_sd d a b (pd_ot d e k) = z)
def pd_cz (d : pd_D) (a b e o : Nat) (z : Int) (m : Nat) : Nat := pd_sum (fun k => if pd_cn d a b e o z k = true then 1 else 0) m
def pd_cl (d : pd_D) (a b e o : Nat) : Bool := decide (pd_cz d a b e o 0 (pd_b d) = 0) && decide (pd_cz d a b e o 1 (pd_b d) < 2) && decide (pd_cz d a b e o (-1) (pd_b d) < 2)
def sn_tl (Pr : Int32 → Int32 → Int32 → Int32 → Prop) (v u4 u5 u6 u7 : Int32) : Prop :=
  if v = (1 : Int32) then (∀ y185 : Int32, y185 = (u4 + (1 : Int32)) → (if v = (-1 : Int32) then (∀ y193 : Int32, y193 = (u5 + (1 : Int32)) → (if u6 = (0 : Int32) then (if v = (0 : Int32) then (∀ y198 : Int32, y198 = u7 + (1 : Int32) → (Pr y185 y193 (1 : Int32) y198)) else (∀ y197 : Int32, y197 = u7 + (1 : Int32) → (Pr y185 y193 (0 : Int32) y197))) else (∀ y195 : Int32, y195 = u7 + (1 : Int32) → (Pr y185 y193 (1 : Int32) y195)))) else (∀ y187 : Int32, y187 = (u5 + (0 : Int32)) → (if u6 = (0 : Int32) then (if v = (0 : Int32) then (∀ y192 : Int32, y192 = u7 + (1 : Int32) → (Pr y185 y187 (1 : Int32) y192)) else (∀ y191 : Int32, y191 = u7 + (1 : Int32) → (Pr y185 y187 (0 : Int32) y191))) else (∀ y189 : Int32, y189 = u7 + (1 : Int32) → (Pr y185 y187 (1 : Int32) y189)))))) else (∀ y171 : Int32, y171 = (u4 + (0 : Int32)) → (if v = (-1 : Int32) then (∀ y179 : Int32, y179 = (u5 + (1 : Int32)) → (if u6 = (0 : Int32) then (if v = (0 : Int32) then (∀ y184 : Int32, y184 = u7 + (1 : Int32) → (Pr y171 y179 (1 : Int32) y184)) else (∀ y183 : Int32, y183 = u7 + (1 : Int32) → (Pr y171 y179 (0 : Int32) y183))) else (∀ y181 : Int32, y181 = u7 + (1 : Int32) → (Pr y171 y179 (1 : Int32) y181)))) else (∀ y173 : Int32, y173 = (u5 + (0 : Int32)) → (if u6 = (0 : Int32) then (if v = (0 : Int32) then (∀ y178 : Int32, y178 = u7 + (1 : Int32) → (Pr y171 y173 (1 : Int32) y178)) else (∀ y177 : Int32, y177 = u7 + (1 : Int32) → (Pr y171 y173 (0 : Int32) y177))) else (∀ y175 : Int32, y175 = u7 + (1 : Int32) → (Pr y171 y173 (1 : Int32) y175))))))
theorem sn_tl_of {Pr : Int32 → Int32 → Int32 → Int32 → Prop} {v u4 u5 u6 u7 : Int32} (h : Pr (u4 + (if v = 1 then 1 else 0)) (u5 + (if v = -1 then 1 else 0)) (if u6 = 0 then (if v = 0 then 1 else 0) else 1) (u7 + 1)) : sn_tl Pr v u4 u5 u6 u7 := by
  unfold sn_tl
  simp only [forall_eq]
  by_cases h1 : v = 1
  · subst h1
    rw [if_pos rfl, if_neg (show ¬ (1 : Int32) = -1 by decide), if_neg (show ¬ (1 : Int32) = 0 by decide)] at h
    rw [if_pos rfl, if_neg (show ¬ (1 : Int32) = -1 by decide)]
    by_cases h6 : u6 = 0
    · rw [if_pos h6] at h; rw [if_pos h6, if_neg (show ¬ (1 : Int32) = 0 by decide)]; exact h
    · rw [if_neg h6] at h; rw [if_neg h6]; exact h
  · rw [if_neg h1] at h
    rw [if_neg h1]
    by_cases h2 : v = -1
    · subst h2
      rw [if_pos rfl, if_neg (show ¬ (-1 : Int32) = 0 by decide)] at h
      rw [if_pos rfl]
      by_cases h6 : u6 = 0
      · rw [if_pos h6] at h; rw [if_pos h6, if_neg (show ¬ (-1 : Int32) = 0 by decide)]; exact h
      · rw [if_neg h6] at h; rw [if_neg h6]; exact h
    · rw [if_neg h2] at h
      rw [if_neg h2]
      by_cases h6 : u6 = 0
      · rw [if_pos h6] at h
        rw [if_pos h6]
        by_cases h0 : v = 0
        · rw [if_pos h0] at h; rw [if_pos h0]; exact h
        · rw [if_neg h0] at h; rw [if_neg h0]; exact h
      · rw [if_neg h6] at h; rw [if_neg h6]; exact h
section SN5
variable {d : pd_D} {σ : sf_St}
theorem pd_cz_le (d : pd_D) (a b e o : Nat) (z : Int) : ∀ m, pd_cz d a b e o z m ≤ m := by
  intro m
  induction m with
  | zero => exact Nat.le_refl _
  | succ m ih =>
    show pd_cz d a b e o z m + _ ≤ _
    dsimp only
    split <;> omega
theorem sp_mIsClear_1 (h : pd_W d) (hm : mD d σ) {a b e o : Nat} (ha : a < pd_n d) (hb : b < pd_n d) (he : e < pd_n d) (ho : o < pd_n d) : ∀ m k, k + m = pd_b d →
    Rn_R_X7_isClear 1 σ (nI a) (nI b) (nI e) (nI o) (nI (pd_cz d a b e o 1 k)) (nI (pd_cz d a b e o (-1) k)) (if pd_cz d a b e o 0 k = 0 then 0 else 1) (nI k) (if pd_cl d a b e o = true then 1 else 0) σ := by
  have h9 := h.1.2
  have h7 := h.1.1
  intro m
  induction m with
  | zero =>
    intro k hk
    have hk' : k = pd_b d := by omega
    subst hk'
    have l1 := pd_cz_le d a b e o 1 (pd_b d)
    have l2 := pd_cz_le d a b e o (-1) (pd_b d)
    apply ru_R_X7_isClear_1
    unfold tr_R_X7_isClear_1
    rw [hm.1.2, if_pos (nI_le (by omega) (by omega))]
    unfold pd_cl
    simp only [Bool.and_eq_true, decide_eq_true_eq]
    have s1 : ((2 : Int32) ≤ nI (pd_cz d a b e o 1 (pd_b d))) ↔ 2 ≤ pd_cz d a b e o 1 (pd_b d) := nI_leI (a := 2) (by decide) (by omega)
    have s2 : ((2 : Int32) ≤ nI (pd_cz d a b e o (-1) (pd_b d))) ↔ 2 ≤ pd_cz d a b e o (-1) (pd_b d) := nI_leI (a := 2) (by decide) (by omega)
    by_cases h0 : pd_cz d a b e o 0 (pd_b d) = 0
    · have o1 : (if pd_cz d a b e o 0 (pd_b d) = 0 then (0 : Int32) else 1) = 0 := if_pos h0
      rw [o1, if_pos rfl]
      by_cases h1 : 2 ≤ pd_cz d a b e o 1 (pd_b d)
      · rw [if_pos (s1.mpr h1), if_neg (fun q => by omega)]; exact ⟨by trivial, by trivial⟩
      · rw [if_neg (fun q => h1 (s1.mp q))]
        by_cases h2 : 2 ≤ pd_cz d a b e o (-1) (pd_b d)
        · rw [if_pos (s2.mpr h2), if_neg (fun q => by omega)]; exact ⟨by trivial, by trivial⟩
        · rw [if_neg (fun q => h2 (s2.mp q)), if_pos ⟨⟨h0, by omega⟩, by omega⟩]; exact ⟨by trivial, by trivial⟩
    · have o1 : (if pd_cz d a b e o 0 (pd_b d) = 0 then (0 : Int32) else 1) = 1 := if_neg h0
      rw [o1, if_neg (by decide), if_neg (fun q => h0 q.1.1)]
      exact ⟨by trivial, by trivial⟩
  | succ m ih =>
    intro k hk
    have hkb : k < pd_b d := by omega
    obtain ⟨q1, q2, q3, q4⟩ := hm.2.2 k hkb
    obtain ⟨w1, w2, w3, w4, w5, w6⟩ := h.2.2.1 k hkb
    have ih' := ih (k + 1) (by omega)
    have l1 := pd_cz_le d a b e o 1 k
    have l2 := pd_cz_le d a b e o (-1) k
    have hstep : ∀ z, pd_cz d a b e o z (k + 1) = pd_cz d a b e o z k + (if pd_cn d a b e o z k = true then 1 else 0) := fun z => rfl
    have ik : vp_in (nI k) 9 := sp_in (by omega) (by decide)
    have skip : (∀ z, pd_cn d a b e o z k = false) → sn_tl (fun l r n k' => Rn_R_X7_isClear 1 σ (nI a) (nI b) (nI e) (nI o) l r n k' (if pd_cl d a b e o = true then 1 else 0) σ) 2 (nI (pd_cz d a b e o 1 k)) (nI (pd_cz d a b e o (-1) k)) (if pd_cz d a b e o 0 k = 0 then 0 else 1) (nI k) := by
      intro hz
      apply sn_tl_of
      have hst : ∀ z, pd_cz d a b e o z (k + 1) = pd_cz d a b e o z k := fun z => by rw [hstep, hz]; simp
      rw [hst, hst, hst] at ih'
      have a0 : ∀ n, nI n + (0 : Int32) = nI n := fun n => nI_add n 0
      rw [if_neg (show ¬ (2 : Int32) = 1 by decide), if_neg (show ¬ (2 : Int32) = -1 by decide), if_neg (show ¬ (2 : Int32) = 0 by decide), a0, a0, sp_inc]
      by_cases h0 : pd_cz d a b e o 0 k = 0
      · rw [if_pos h0] at ih' ⊢; rw [if_pos rfl]; exact ih'
      · rw [if_neg h0] at ih' ⊢; rw [if_neg (by decide)]; exact ih'
    have take : ∀ p, p < pd_n d → (∀ z, pd_cn d a b e o z k = decide (pd_sd d a b p = z)) → sn_tl (fun l r n k' => Rn_R_X7_isClear 1 σ (nI a) (nI b) (nI e) (nI o) l r n k' (if pd_cl d a b e o = true then 1 else 0) σ) (iI (pd_sd d a b p)) (nI (pd_cz d a b e o 1 k)) (nI (pd_cz d a b e o (-1) k)) (if pd_cz d a b e o 0 k = 0 then 0 else 1) (nI k) := by
      intro p hp hz
      apply sn_tl_of
      have a0 : ∀ n, nI n + (0 : Int32) = nI n := fun n => nI_add n 0
      rw [hstep, hstep, hstep, hz, hz, hz] at ih'
      simp only [decide_eq_true_eq] at ih'
      have n1 : ¬ iI 1 = (0 : Int32) := by decide
      have n2 : ¬ iI 1 = (-1 : Int32) := by decide
      have n3 : ¬ iI 0 = (1 : Int32) := by decide
      have n4 : ¬ iI 0 = (-1 : Int32) := by decide
      have n5 : ¬ iI (-1) = (1 : Int32) := by decide
      have n6 : ¬ iI (-1) = (0 : Int32) := by decide
      have n7 : iI (-1) = (-1 : Int32) := by decide
      have n8 : iI 0 = (0 : Int32) := by decide
      have n9 : iI 1 = (1 : Int32) := by decide
      rcases pd_sd_3 d a b p with hs | hs | hs
      · rw [hs] at ih' ⊢
        rw [if_neg n5, if_pos n7, if_neg n6, a0, sp_inc, sp_inc]
        rw [if_neg (show ¬ (-1 : Int) = 1 by decide), if_pos rfl, if_neg (show ¬ (-1 : Int) = 0 by decide)] at ih'
        by_cases h0 : pd_cz d a b e o 0 k = 0
        · rw [if_pos (by omega)] at ih'; rw [if_pos h0, if_pos rfl]; exact ih'
        · rw [if_neg (by omega)] at ih'; rw [if_neg h0, if_neg (by decide)]; exact ih'
      · rw [hs] at ih' ⊢
        rw [if_neg n3, if_neg n4, if_pos n8, a0, a0, sp_inc]
        rw [if_neg (show ¬ (0 : Int) = 1 by decide), if_neg (show ¬ (0 : Int) = -1 by decide), if_pos rfl, if_neg (by omega)] at ih'
        by_cases h0 : pd_cz d a b e o 0 k = 0
        · rw [if_pos h0, if_pos rfl]; exact ih'
        · rw [if_neg h0, if_neg (by decide)]; exact ih'
      · rw [hs] at ih' ⊢
        rw [if_pos n9, if_neg n2, if_neg n1, a0, sp_inc, sp_inc]
        rw [if_pos rfl, if_neg (show ¬ (1 : Int) = -1 by decide), if_neg (show ¬ (1 : Int) = 0 by decide)] at ih'
        by_cases h0 : pd_cz d a b e o 0 k = 0
        · rw [if_pos (by omega)] at ih'; rw [if_pos h0, if_pos rfl]; exact ih'
        · rw [if_neg (by omega)] at ih'; rw [if_neg h0, if_neg (by decide)]; exact ih'
    apply ru_R_X7_isClear_1
    unfold tr_R_X7_isClear_1
    rw [hm.1.2, if_neg (nI_ge (by omega) (by omega)), sp_ix (by omega), q1, q2]
    refine ⟨ik, ?_⟩
    have s1 : (nI (pd_f d k) = nI e) ↔ pd_f d k = e := nI_eq (by omega) (by omega)
    have s2 : (nI (pd_s d k) = nI e) ↔ pd_s d k = e := nI_eq (by omega) (by omega)
    have s3 : (nI (pd_s d k) = nI o) ↔ pd_s d k = o := nI_eq (by omega) (by omega)
    have s4 : (nI (pd_f d k) = nI o) ↔ pd_f d k = o := nI_eq (by omega) (by omega)
    by_cases hf : pd_f d k = e
    · rw [if_pos (s1.mpr hf)]
      refine ⟨ik, ?_⟩
      intro y hy
      subst hy
      have hot : pd_ot d e k = pd_s d k := if_pos hf
      have hinc : pd_inc d k e = true := by simp [pd_inc, hf]
      by_cases hso : pd_s d k = o
      · rw [if_pos (s3.mpr hso)]
        exact skip (fun z => by unfold pd_cn; rw [hot, hso]; simp)
      · rw [if_neg (fun q => hso (s3.mp q))]
        refine ⟨_, σ, sp_mSide h hm ha hb w2, ?_⟩
        exact take (pd_s d k) w2 (fun z => by unfold pd_cn; rw [hot, hinc]; simp [hso])
    · rw [if_neg (fun q => hf (s1.mp q))]
      refine ⟨ik, ?_⟩
      have hot : pd_ot d e k = pd_f d k := if_neg hf
      by_cases hs : pd_s d k = e
      · rw [if_pos (s2.mpr hs)]
        refine ⟨ik, ?_⟩
        intro y hy
        subst hy
        have hinc : pd_inc d k e = true := by simp [pd_inc, hs]
        by_cases hfo : pd_f d k = o
        · rw [if_pos (s4.mpr hfo)]
          exact skip (fun z => by unfold pd_cn; rw [hot, hfo]; simp)
        · rw [if_neg (fun q => hfo (s4.mp q))]
          refine ⟨_, σ, sp_mSide h hm ha hb w1, ?_⟩
          exact take (pd_f d k) w1 (fun z => by unfold pd_cn; rw [hot, hinc]; simp [hfo])
      · rw [if_neg (fun q => hs (s2.mp q)), if_pos rfl]
        exact skip (fun z => by unfold pd_cn pd_inc; simp [hf, hs])
theorem sp_mIsClear (h : pd_W d) (hm : mD d σ) {a b e o : Nat} (ha : a < pd_n d) (hb : b < pd_n d) (he : e < pd_n d) (ho : o < pd_n d) : R_X7_isClear σ (nI a) (nI b) (nI e) (nI o) (if pd_cl d a b e o = true then 1 else 0) σ := by
  unfold R_X7_isClear
  apply ru_R_X7_isClear_0
  unfold tr_R_X7_isClear_0
  exact sp_mIsClear_1 h hm ha hb he ho (pd_b d) 0 (by omega)
/-- the first of the neighbours -/
def sn_hd (L : List Nat) : Int32 := match L with | [] => -1 | p :: _ => nI p
theorem sp_leastBeside_1 (h : pd_W d) (hm : mD d σ) {π : List Nat} (hp : pN d π) (hN : mN d π σ) {e o : Nat} (he : e < pd_n d) (ho : o < pd_n d) : ∀ m, m ≤ pd_n d →
    Rn_R_X7_leastBeside 1 σ (nI e) (nI o) (sn_hd ((π.drop m).filter (pd_P d e o))) (nI m - 1) (sn_hd (π.filter (pd_P d e o))) σ := by
  have h7 := h.1.1
  have h9 := h.1.2
  intro m
  induction m with
  | zero =>
    intro _
    apply ru_R_X7_leastBeside_1
    unfold tr_R_X7_leastBeside_1
    rw [if_pos (by decide)]
    exact ⟨rfl, rfl⟩
  | succ m ih =>
    intro hmn
    have hmn' : m < pd_n d := by omega
    have ih' := ih (by omega)
    have hg := pN_getD hp hmn'
    have h8 := (hN m hmn').1
    have hml : m < π.length := by rw [hp.2]; exact hmn'
    have hgd : π.getD m 0 = π[m] := by simp [List.getD_eq_getElem?_getD, List.getElem?_eq_getElem hml]
    have hdrop : π.drop m = π.getD m 0 :: π.drop (m + 1) := by rw [hgd]; exact List.drop_eq_getElem_cons hml
    rw [hdrop, List.filter_cons] at ih'
    have eM : nI m + (-1 : Int32) = nI m - 1 := (Int32.sub_eq_add_neg _ _).symm
    have hbo' := sp_mBondOf h hm (a := e) (b := π.getD m 0) (by omega) (by omega)
    have im : vp_in (nI m) 7 := sp_in (by omega) (by decide)
    have s1 : (nI (π.getD m 0) = nI o) ↔ π.getD m 0 = o := nI_eq (by omega) (by omega)
    generalize π.getD m 0 = q at *
    apply ru_R_X7_leastBeside_1
    unfold tr_R_X7_leastBeside_1
    rw [nI_pred, if_neg (nI_pos (by omega)), sp_ix (by omega), h8]
    refine ⟨im, ?_⟩
    by_cases hqo : q = o
    · rw [if_pos (s1.mpr hqo)]
      have hP : pd_P d e o q = false := by unfold pd_P; simp [hqo]
      rw [hP] at ih'
      intro y hy
      rw [eM] at hy
      subst hy
      exact ih'
    · rw [if_neg (fun w => hqo (s1.mp w))]
      refine ⟨im, ?_⟩
      cases hb : pd_bo d e q with
      | none =>
        have hP : pd_P d e o q = false := by unfold pd_P; simp [hb]
        rw [hP] at ih'
        have e2 : pd_bi d e q = -1 := by unfold pd_bi; rw [hb]
        rw [e2] at hbo'
        refine ⟨_, σ, hbo', ?_⟩
        rw [if_pos (by decide)]
        intro y hy
        rw [eM] at hy
        subst hy
        exact ih'
      | some k =>
        have hP : pd_P d e o q = true := by unfold pd_P; simp [hb, hqo]
        rw [hP] at ih'
        have hk := (pd_bo_some hb).1
        have e2 : pd_bi d e q = nI k := by unfold pd_bi; rw [hb]
        rw [e2] at hbo'
        refine ⟨_, σ, hbo', ?_⟩
        rw [if_neg (nI_pos (by omega)), h8]
        refine ⟨im, ?_⟩
        intro y hy z hz
        rw [eM] at hz
        subst hy
        subst hz
        exact ih'
theorem sp_leastBeside (h : pd_W d) (hm : mD d σ) {π : List Nat} (hp : pN d π) (hN : mN d π σ) {e o : Nat} (he : e < pd_n d) (ho : o < pd_n d) : R_X7_leastBeside σ (nI e) (nI o) (sn_hd (π.filter (pd_P d e o))) σ := by
  unfold R_X7_leastBeside
  apply ru_R_X7_leastBeside_0
  unfold tr_R_X7_leastBeside_0
  rw [hm.1.1]
  intro y hy
  subst hy
  have := sp_leastBeside_1 h hm hp hN he ho (pd_n d) (Nat.le_refl _)
  rw [List.drop_of_length_le (by rw [hp.2]; exact Nat.le_refl _)] at this
  exact this
theorem pd_ot_of (h : pd_W d) {k e b : Nat} (hk : k < pd_b d) (hj : pd_j d k e b = true) : pd_ot d e k = b := by
  have w3 := (h.2.2.1 k hk).2.2.1
  simp only [pd_j, Bool.or_eq_true, Bool.and_eq_true, beq_iff_eq] at hj
  unfold pd_ot
  rcases hj with ⟨h1, h2⟩ | ⟨h1, h2⟩
  · rw [if_pos h1]; exact h2
  · rw [if_neg (fun q => w3 (by omega))]; exact h1
theorem pd_cz_len (h : pd_W d) (a b e o : Nat) (z : Int) : pd_cz d a b e o z (pd_b d) = ((pd_nl d e o).filter (fun p => decide (pd_sd d a b p = z))).length := by
  unfold pd_nl
  rw [List.filter_filter, pd_len_sum]
  have e1 : pd_cz d a b e o z (pd_b d) = pd_sum (fun k => if pd_inc d k e = true then (fun k => if (!(pd_ot d e k == o) && decide (pd_sd d a b (pd_ot d e k) = z)) = true then 1 else 0) k else 0) (pd_b d) := by
    unfold pd_cz
    refine pd_sum_congr _ (fun k _ => ?_)
    unfold pd_cn
    by_cases h1 : pd_inc d k e = true
    · simp [h1]
    · simp [h1]
  rw [e1, ← pd_sum_og h]
  refine pd_sum_congr _ (fun p hp => ?_)
  unfold pd_og
  cases hbo : pd_bo d e p with
  | none => simp
  | some k =>
    obtain ⟨hk, hj⟩ := pd_bo_some hbo
    have hot := pd_ot_of h hk hj
    simp only [hot, Option.isSome_some, Bool.true_and]
    rw [Bool.and_comm]
theorem pd_cl_go (h : pd_W d) {a b e o : Nat} (h1 : 1 ≤ (pd_nl d e o).length) (h2 : (pd_nl d e o).length ≤ 2) : pd_cl d a b e o = true ↔ pd_go d a b (pd_nl d e o) := by
  unfold pd_cl
  rw [pd_cz_len h, pd_cz_len h, pd_cz_len h]
  generalize pd_nl d e o = L at *
  match L, h1, h2 with
  | [p], _, _ =>
    unfold pd_go
    rcases pd_sd_3 d a b p with hs | hs | hs <;> simp [List.filter_cons, hs]
  | [p, q], _, _ =>
    unfold pd_go
    rcases pd_sd_3 d a b p with hs | hs | hs <;> rcases pd_sd_3 d a b q with hq | hq | hq <;> simp [List.filter_cons, hs, hq]
  | _ :: _ :: _ :: _, _, h2 => simp at h2
theorem pd_en_st (h : pd_W d) {a b e o : Nat} (h1 : 1 ≤ (pd_nl d e o).length) (h2 : (pd_nl d e o).length ≤ 2) (num : Nat → Nat) : pd_en d a b (ps_st num (pd_nl d e o)) = if pd_cl d a b e o = true then pd_fi d a b (ps_st num (pd_nl d e o)) else 0 := by
  have hg := pd_cl_go h (a := a) (b := b) h1 h2
  generalize pd_cl d a b e o = c at *
  generalize pd_nl d e o = L at *
  match L, h1, h2 with
  | [p], _, _ =>
    show pd_sd d a b p = if c = true then pd_sd d a b p else 0
    by_cases hc : c = true
    · rw [if_pos hc]
    · rw [if_neg hc]
      by_cases hz : pd_sd d a b p = 0
      · exact hz
      · exact absurd (hg.mpr hz) hc
  | [p, q], _, _ =>
    have key : ∀ p q, (c = true ↔ (pd_sd d a b p ≠ 0 ∧ pd_sd d a b q ≠ 0 ∧ pd_sd d a b p ≠ pd_sd d a b q)) → pd_en d a b [p, q] = if c = true then pd_fi d a b [p, q] else 0 := by
      intro p q hg
      show (if pd_sd d a b p = 0 ∨ pd_sd d a b q = 0 ∨ pd_sd d a b p = pd_sd d a b q then 0 else pd_sd d a b p) = if c = true then pd_sd d a b p else 0
      by_cases hc : c = true
      · have := hg.mp hc
        rw [if_pos hc, if_neg]
        rintro (w | w | w)
        · exact this.1 w
        · exact this.2.1 w
        · exact this.2.2 w
      · rw [if_neg hc, if_pos]
        by_cases w1 : pd_sd d a b p = 0
        · exact Or.inl w1
        · by_cases w2 : pd_sd d a b q = 0
          · exact Or.inr (Or.inl w2)
          · by_cases w3 : pd_sd d a b p = pd_sd d a b q
            · exact Or.inr (Or.inr w3)
            · exact absurd (hg.mpr ⟨w1, w2, w3⟩) hc
    have e : ps_st num [p, q] = if num q < num p then [q, p] else [p, q] := rfl
    rw [e]
    by_cases hlt : num q < num p
    · rw [if_pos hlt]
      refine key q p (hg.trans ?_)
      show (pd_sd d a b p ≠ 0 ∧ pd_sd d a b q ≠ 0 ∧ pd_sd d a b p ≠ pd_sd d a b q) ↔ _
      constructor
      · rintro ⟨w1, w2, w3⟩; exact ⟨w2, w1, fun w => w3 w.symm⟩
      · rintro ⟨w1, w2, w3⟩; exact ⟨w2, w1, fun w => w3 w.symm⟩
    · rw [if_neg hlt]
      exact key p q hg
  | _ :: _ :: _ :: _, _, h2 => simp at h2
theorem mN_num {π : List Nat} (hp : pN d π) (hN : mN d π σ) {a : Nat} (ha : a < pd_n d) : σ 9 a = nI (pd_num π a) := by
  have h1 := List.idxOf_lt_length_of_mem (pN_mem hp ha)
  have e1 := List.getElem_idxOf h1
  have h2 := (hN (π.idxOf a) (by rw [← hp.2]; exact h1)).2
  have : π.getD (π.idxOf a) 0 = a := by
    rw [List.getD_eq_getElem?_getD, List.getElem?_eq_getElem h1, e1]; rfl
  rw [this] at h2
  exact h2
theorem pd_num_lt {π : List Nat} (hp : pN d π) {a : Nat} (ha : a < pd_n d) : pd_num π a < pd_n d := by
  rw [← hp.2]; exact List.idxOf_lt_length_of_mem (pN_mem hp ha)
def pd_hp2 (d : pd_D) (π : List Nat) (A B : Nat) : Int := pd_en d A B (π.filter (pd_P d A B)) * pd_en d A B (π.filter (pd_P d B A))
def pd_hp (d : pd_D) (π : List Nat) (k : Nat) : Int := if pd_hi d k = true then (if pd_num π (pd_f d k) ≤ pd_num π (pd_s d k) then pd_hp2 d π (pd_f d k) (pd_s d k) else pd_hp2 d π (pd_s d k) (pd_f d k)) else 0
theorem sp_mHingeSense (h : pd_W d) (hm : mD d σ) {π : List Nat} (hp : pN d π) (hN : mN d π σ) {k : Nat} (hk : k < pd_b d) : R_X7_hingeSense σ (nI k) (iI (pd_hp d π k)) σ := by
  have h9 := h.1.2
  have h7 := h.1.1
  obtain ⟨w1, w2, w3, w4, w5, w6⟩ := h.2.2.1 k hk
  obtain ⟨q1, q2, q3, q4⟩ := hm.2.2 k hk
  have ik : vp_in (nI k) 9 := sp_in (by omega) (by decide)
  have hhi := sp_mHinge h hm hk
  have nf := pd_num_lt hp w1
  have ns := pd_num_lt hp w2
  have tail : ∀ A B, A < pd_n d → B < pd_n d → (1 ≤ (pd_nl d A B).length ∧ (pd_nl d A B).length ≤ 2) → (1 ≤ (pd_nl d B A).length ∧ (pd_nl d B A).length ≤ 2) →
      (∃ (r18 : Int32) (τ17 : sf_St), R_X7_isClear σ (nI A) (nI B) (nI A) (nI B) r18 τ17 ∧ (if r18 = (0 : Int32) then (iI (pd_hp2 d π A B) = (0 : Int32) ∧ σ = τ17) else (∃ (r22 : Int32) (τ21 : sf_St), R_X7_isClear τ17 (nI A) (nI B) (nI B) (nI A) r22 τ21 ∧ (if r22 = (0 : Int32) then (iI (pd_hp2 d π A B) = (0 : Int32) ∧ σ = τ21) else (∃ (r26 : Int32) (τ25 : sf_St), R_X7_leastBeside τ21 (nI A) (nI B) r26 τ25 ∧ (∃ (r29 : Int32) (τ28 : sf_St), R_X7_side τ25 (nI A) (nI B) r26 r29 τ28 ∧ (∃ (r32 : Int32) (τ31 : sf_St), R_X7_leastBeside τ28 (nI B) (nI A) r32 τ31 ∧ (∃ (r35 : Int32) (τ34 : sf_St), R_X7_side τ31 (nI A) (nI B) r32 r35 τ34 ∧ (iI (pd_hp2 d π A B) = (r29 * r35) ∧ σ = τ34))))))))) := by
    intro A B hA hB hl1 hl2
    have hd : ∀ e o, 1 ≤ (pd_nl d e o).length → ∃ p, p < pd_n d ∧ sn_hd (π.filter (pd_P d e o)) = nI p ∧ pd_fi d A B (π.filter (pd_P d e o)) = pd_sd d A B p := by
      intro e o hl
      rw [← pd_fl_len hp] at hl
      have hlt : ∀ b ∈ π.filter (pd_P d e o), b < pd_n d := fun b hb => hp.1.2 b (List.mem_filter.mp hb).1
      match hL : π.filter (pd_P d e o), hl with
      | [], hl => simp at hl
      | p :: t, _ => exact ⟨p, hlt p (by rw [hL]; exact List.mem_cons_self ..), rfl, rfl⟩
    obtain ⟨p, hp1, hp2, hp3⟩ := hd A B hl1.1
    obtain ⟨q, hq1, hq2, hq3⟩ := hd B A hl2.1
    have lb1 := sp_leastBeside h hm hp hN hA hB
    have lb2 := sp_leastBeside h hm hp hN hB hA
    rw [hp2] at lb1
    rw [hq2] at lb2
    have c1 := sp_mIsClear h hm hA hB hA hB
    have c2 := sp_mIsClear h hm hA hB hB hA
    have e1 := pd_en_st h (a := A) (b := B) hl1.1 hl1.2 (pd_num π)
    have e2 := pd_en_st h (a := A) (b := B) hl2.1 hl2.2 (pd_num π)
    rw [← pd_nl_st hp, hp3] at e1
    rw [← pd_nl_st hp, hq3] at e2
    have hv : pd_hp2 d π A B = (if pd_cl d A B A B = true then pd_sd d A B p else 0) * (if pd_cl d A B B A = true then pd_sd d A B q else 0) := by
      unfold pd_hp2; rw [e1, e2]
    rw [hv]
    by_cases g1 : pd_cl d A B A B = true
    · rw [if_pos g1] at c1 ⊢
      refine ⟨1, σ, c1, ?_⟩
      rw [if_neg (by decide)]
      by_cases g2 : pd_cl d A B B A = true
      · rw [if_pos g2] at c2 ⊢
        refine ⟨1, σ, c2, ?_⟩
        rw [if_neg (by decide)]
        exact ⟨_, σ, lb1, _, σ, sp_mSide h hm hA hB hp1, _, σ, lb2, _, σ, sp_mSide h hm hA hB hq1, (iI_mul _ _).symm, rfl⟩
      · rw [if_neg g2] at c2 ⊢
        refine ⟨0, σ, c2, ?_⟩
        rw [if_pos rfl, Int.mul_zero]
        exact ⟨rfl, rfl⟩
    · rw [if_neg g1] at c1 ⊢
      refine ⟨0, σ, c1, ?_⟩
      rw [if_pos rfl, Int.zero_mul]
      exact ⟨rfl, rfl⟩
  unfold R_X7_hingeSense pd_hp
  by_cases hh : pd_hi d k = true
  · obtain ⟨l1, l2⟩ := pd_hi_len h hk hh
    rw [if_pos hh] at hhi
    refine ⟨1, σ, hhi, ?_⟩
    rw [if_neg (by decide), if_pos hh, sp_ix (by omega), q1, q2, sp_ix (by omega), sp_ix (by omega), mN_num hp hN w1, mN_num hp hN w2]
    refine ⟨ik, sp_in (by omega) (by decide), ik, sp_in (by omega) (by decide), ?_⟩
    by_cases hn : pd_num π (pd_f d k) ≤ pd_num π (pd_s d k)
    · rw [if_pos (nI_le hn (by omega)), if_pos hn, if_pos rfl]
      refine ⟨ik, ?_⟩
      intro y hy
      subst hy
      rw [if_pos rfl]
      refine ⟨ik, ?_⟩
      intro y hy
      subst hy
      exact tail _ _ w1 w2 l1 l2
    · rw [if_neg (nI_ge (by omega) (by omega)), if_neg hn, if_neg (by decide)]
      refine ⟨ik, ?_⟩
      intro y hy
      subst hy
      rw [if_neg (by decide)]
      refine ⟨ik, ?_⟩
      intro y hy
      subst hy
      exact tail _ _ w2 w1 l2 l1
  · rw [if_neg hh] at hhi
    exact ⟨0, σ, hhi, by rw [if_pos rfl, if_neg hh]; exact ⟨rfl, rfl⟩⟩
theorem pd_num_own {a : Nat} (ha : a < pd_n d) : pd_num (List.range (pd_n d)) a = a := by
  have h1 : a < (List.range (pd_n d)).length := by simpa using ha
  have := (List.nodup_range (n := pd_n d)).idxOf_getElem a h1
  rw [List.getElem_range] at this
  exact this
theorem pd_hp_own (h : pd_W d) {k : Nat} (hk : k < pd_b d) : pd_hp d (List.range (pd_n d)) k = pd_hs d k := by
  obtain ⟨w1, w2, w3, -⟩ := h.2.2.1 k hk
  unfold pd_hp pd_hs
  rw [pd_num_own w1, pd_num_own w2]
  by_cases hh : pd_hi d k = true
  · rw [if_pos hh, if_pos hh]
    by_cases hlt : pd_f d k ≤ pd_s d k
    · rw [if_pos hlt, Nat.min_eq_left hlt, Nat.max_eq_right hlt]; rfl
    · rw [if_neg hlt, Nat.min_eq_right (by omega), Nat.max_eq_left (by omega)]; rfl
  · rw [if_neg hh, if_neg hh]
theorem op_turn (σ σ' : sf_St) (a0 : Int32) (h : Inv σ σ') : ∃ (r : Int32) (τ τ' : sf_St), R_X6_turn σ a0 r τ ∧ R_X7_turn σ' a0 r τ' ∧ Inv τ τ' := by
  have hI := h
  obtain ⟨d, hw, hc, hm, -⟩ := h
  have h9 := hw.1.2
  unfold R_X6_turn R_X7_turn
  rcases sp_has (u := a0) (n := pd_b d) (by omega) with h | ⟨a, ha, rfl⟩
  · exact ⟨-1, σ, σ', ⟨0, σ, sp_hasBond_no hc h, by simp⟩, ⟨0, σ', sp_mBond_no hm h, by simp⟩, hI⟩
  obtain ⟨τ1, s1, s2, s3⟩ := sp_ownNumbers hw hm
  have hm1 : mD d τ1 := mD_fr hm (by rw [s2 0 (by decide) (by decide)]; exact ⟨rfl, rfl⟩) (fun c _ h => s2 c (by omega) (by omega))
  have t1 := sp_senseOfBond hw hc ha
  have r1 := sp_mHingeSense hw hm1 pN_own s3 ha
  rw [pd_hp_own hw ha] at r1
  have g1 := sp_isHinge hw hc ha
  have g2 := sp_mHinge hw hm1 ha
  have n01 : ¬ ((1 : Int32) = 0) := by decide
  refine ⟨iI (pd_hs d a) + 1 + (if pd_hi d a = true then 4 else 0), σ, τ1, ⟨1, σ, sp_hasBond_yes hw hc ha, ?_⟩, ⟨1, σ', sp_mBond_yes hw hm ha, ?_⟩, inv_fr hI (fun _ _ => rfl) (fun c h1 h2 h3 => s2 c h1 h2)⟩
  · rw [if_neg n01]
    refine ⟨_, σ, t1, _, σ, g1, ?_⟩
    by_cases hce : pd_hi d a = true
    · rw [if_pos hce, if_pos hce, if_neg n01]; exact ⟨rfl, rfl⟩
    · rw [if_neg hce, if_neg hce, if_pos rfl]; exact ⟨rfl, rfl⟩
  · rw [if_neg n01]
    refine ⟨τ1, s1, _, τ1, r1, _, τ1, g2, ?_⟩
    by_cases hce : pd_hi d a = true
    · rw [if_pos hce, if_pos hce, if_neg n01]; exact ⟨rfl, rfl⟩
    · rw [if_neg hce, if_neg hce, if_pos rfl]; exact ⟨rfl, rfl⟩
end SN5
