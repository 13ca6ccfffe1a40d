/-! the reference: the least senses -/
section RS6
variable {d : pd_D}
theorem pm_rfold_mem (row : List Nat → Nat → Nat) : ∀ (C : List (List Nat)) (A : List Nat × List (List Nat)) (π : List Nat), π ∈ (C.foldl (pm_rst row) A).2 → π ∈ A.2 ∨ π ∈ C := by
  intro C
  induction C with
  | nil => intro A π h; exact Or.inl h
  | cons p C ih =>
    intro A π h
    rcases ih _ π h with h1 | h1
    · have : π ∈ A.2 ∨ π = p := by
        unfold pm_rst at h1
        split at h1
        · exact Or.inr (by simpa using h1)
        · split at h1
          · exact Or.inr (by simpa using h1)
          · split at h1
            · rcases List.mem_append.mp h1 with h2 | h2
              · exact Or.inl h2
              · exact Or.inr (by simpa using h2)
            · exact Or.inl h1
      rcases this with h2 | h2
      · exact Or.inl h2
      · exact Or.inr (h2 ▸ List.mem_cons_self)
    · exact Or.inr (List.mem_cons_of_mem _ h1)
theorem pd_K_pN {π : List Nat} (h : π ∈ (pd_K d).2) : pN d π := by
  rcases pm_rfold_mem _ _ _ _ h with h1 | h1
  · cases h1
  · exact pN_ext ⟨List.nodup_nil, fun a ha => by cases ha⟩ (by simp) h1
theorem fl7 (g : Nat → List (List Nat)) (h0 : (g 0).length = 720) (h1 : (g 1).length = 720) (h2 : (g 2).length = 720) (h3 : (g 3).length = 720) (h4 : (g 4).length = 720) (h5 : (g 5).length = 720) (h6 : (g 6).length = 720) : ([0, 1, 2, 3, 4, 5, 6].flatMap g).length ≤ 5040 := by
  simp only [List.flatMap_cons, List.flatMap_nil, List.length_append, h0, h1, h2, h3, h4, h5, h6, List.length_nil]
  decide
theorem pm_len7 : (pm_ext 7 7 []).length ≤ 5040 := by
  rw [pm_e77]
  exact fl7 (fun a => pm_ext 7 6 [a]) pm_len7_0 pm_len7_1 pm_len7_2 pm_len7_3 pm_len7_4 pm_len7_5 pm_len7_6
theorem pd_K_len (h : pd_W d) (hn : 1 ≤ pd_n d) : (pd_K d).2.length ≤ 5040 := by
  have h7 := h.1.1
  have h1 := pm_rfold_len (pd_row d) (pm_ext (pd_n d) (pd_n d) []) ([], [])
  have h2 : (pm_ext (pd_n d) (pd_n d) []).length ≤ 5040 := by
    have hc : pd_n d = 1 ∨ pd_n d = 2 ∨ pd_n d = 3 ∨ pd_n d = 4 ∨ pd_n d = 5 ∨ pd_n d = 6 ∨ pd_n d = 7 := by omega
    rcases hc with e | e | e | e | e | e | e <;> rw [e]
    · exact pm_len1
    · exact pm_len2
    · exact pm_len3
    · exact pm_len4
    · exact pm_len5
    · exact pm_len6
    · exact pm_len7
  have h3 : (pd_K d).2.length ≤ 0 + (pm_ext (pd_n d) (pd_n d) []).length := h1
  omega
def ml (code : List Nat → Nat) (c : Nat) (l : List (List Nat)) : Nat := l.foldl (fun m π => if code π < m then code π else m) c
theorem pm_mf_1 (code : List Nat → Nat) : ∀ (l : List (List Nat)) (S : Nat × List Nat), (pm_mf code l S).1 = ml code S.1 l := by
  intro l
  induction l with
  | nil => intro S; rfl
  | cons p l ih =>
    intro S
    have := ih (if code p < S.1 then (code p, p) else S)
    show (pm_mf code l (if code p < S.1 then (code p, p) else S)).1 = ml code (if code p < S.1 then code p else S.1) l
    rw [this]
    congr 1
    split <;> rfl
theorem ml_le (code : List Nat → Nat) : ∀ (l : List (List Nat)) (c : Nat), ml code c l ≤ c := by
  intro l
  induction l with
  | nil => intro c; exact Nat.le_refl _
  | cons p l ih =>
    intro c
    have := ih (if code p < c then code p else c)
    show ml code (if code p < c then code p else c) l ≤ c
    have h2 : (if code p < c then code p else c) ≤ c := by split <;> omega
    omega
theorem ml_top (code : List Nat → Nat) {c c' : Nat} {l : List (List Nat)} (hl : l ≠ []) (h : ∀ π ∈ l, code π < c ∧ code π < c') : ml code c l = ml code c' l := by
  cases l with
  | nil => exact absurd rfl hl
  | cons p l =>
    have := h p List.mem_cons_self
    show ml code (if code p < c then code p else c) l = ml code (if code p < c' then code p else c') l
    rw [if_pos this.1, if_pos this.2]
theorem ls_getD_mem {l : List (List Nat)} {j : Nat} (h : j < l.length) : l.getD j [] ∈ l := by
  have : l.getD j [] = l[j] := by simp [List.getD_eq_getElem?_getD, List.getElem?_eq_getElem h]
  rw [this]
  exact List.getElem_mem _
theorem ls_take_succ {l : List (List Nat)} {j : Nat} (h : j < l.length) : l.take (j + 1) = l.take j ++ [l.getD j []] := by
  have : l.getD j [] = l[j] := by simp [List.getD_eq_getElem?_getD, List.getElem?_eq_getElem h]
  rw [this, List.take_succ, List.getElem?_eq_getElem h]
  rfl
theorem sp_mLeast_1 (h : pd_W d) {t : Nat} (ht : t < 2 ^ 16) {l : List (List Nat)} (hl5 : l.length ≤ 5040) (hlN : ∀ π ∈ l, pN d π) (hcb : ∀ π, pN d π → pd_code d (tA d t) (tB d t) π < 100000) : ∀ m k (σ : sf_St), k + m = l.length → mD d σ → σ 0 13 = nI l.length → (∀ j, j < l.length → σ 11 j = nI (pd_pk (l.getD j []))) →
    ∃ τ, Rn_R_X7_leastSenses 1 σ (nI t) (nI (ml (pd_code d (tA d t) (tB d t)) 100000 (l.take k))) (nI k) (nI (ml (pd_code d (tA d t) (tB d t)) 100000 l)) τ ∧ ∀ c, c ≠ 8 → c ≠ 9 → c ≠ 14 → τ c = σ c := by
  intro m
  induction m with
  | zero =>
    intro k σ hk hm h13 h11
    have hk' : k = l.length := by omega
    subst hk'
    refine ⟨σ, ?_, fun _ _ _ _ => rfl⟩
    apply ru_R_X7_leastSenses_1
    unfold tr_R_X7_leastSenses_1
    rw [h13, if_pos (nI_le (by omega) (by omega)), List.take_length]
    exact ⟨rfl, rfl⟩
  | succ m ih =>
    intro k σ hk hm h13 h11
    have hkl : k < l.length := by omega
    have hpN := hlN _ (ls_getD_mem hkl)
    obtain ⟨σ1, s1, s2, s3⟩ := sp_unpack h hm hpN
    have hm1 : mD d σ1 := mD_fr hm (by rw [s2 0 (by decide) (by decide)]; exact ⟨rfl, rfl⟩) (fun c _ h => s2 c (by omega) (by omega))
    obtain ⟨σ2, u1, u2⟩ := sp_mNow h hm1 hpN s3 ht
    have hm2 : mD d σ2 := mD_fr hm1 (by rw [u2 0 (by decide)]; exact ⟨rfl, rfl⟩) (fun c _ h => u2 c (by omega))
    obtain ⟨τ, t1, t2⟩ := ih (k + 1) σ2 (by omega) hm2 (by rw [u2 0 (by decide), s2 0 (by decide) (by decide)]; exact h13) (by rw [u2 11 (by decide), s2 11 (by decide) (by decide)]; exact h11)
    refine ⟨τ, ?_, fun c a1 a2 a3 => (t2 c a1 a2 a3).trans ((u2 c a3).trans (s2 c a1 a2))⟩
    have hb := hcb _ hpN
    have hle := ml_le (pd_code d (tA d t) (tB d t)) (l.take k) 100000
    have es : ml (pd_code d (tA d t) (tB d t)) 100000 (l.take (k + 1)) = if pd_code d (tA d t) (tB d t) (l.getD k []) < ml (pd_code d (tA d t) (tB d t)) 100000 (l.take k) then pd_code d (tA d t) (tB d t) (l.getD k []) else ml (pd_code d (tA d t) (tB d t)) 100000 (l.take k) := by
      unfold ml
      rw [ls_take_succ hkl, List.foldl_append]
      rfl
    rw [es] at t1
    apply ru_R_X7_leastSenses_1
    unfold tr_R_X7_leastSenses_1
    rw [h13, if_neg (nI_ge (by omega) (by omega)), sp_ix (by omega), h11 k hkl]
    refine ⟨sp_in (by omega) (by decide), σ1, s1, _, σ2, u1, ?_⟩
    generalize ml (pd_code d (tA d t) (tB d t)) 100000 (l.take k) = x at *
    generalize pd_code d (tA d t) (tB d t) (l.getD k []) = y at *
    by_cases hxy : y < x
    · rw [if_pos hxy] at t1
      rw [if_neg (nI_ge hxy (by omega))]
      intro z hz
      rw [sp_inc] at hz
      subst hz
      exact t1
    · rw [if_neg hxy] at t1
      rw [if_pos (nI_le (by omega) (by omega))]
      intro z hz
      rw [sp_inc] at hz
      subst hz
      exact t1
def rs_h (σ τ : sf_St) : Prop := (∀ c, c ≠ 0 → c ≠ 8 → c ≠ 9 → c ≠ 10 → c ≠ 11 → c ≠ 14 → τ c = σ c) ∧ ∀ j, j ≠ 11 → j ≠ 13 → τ 0 j = σ 0 j
theorem sp_mLeast (h : pd_W d) {t : Nat} (ht : t < 2 ^ 16) {σ : sf_St} (hm : mD d σ) (hM : iv_M d σ) (hcb : ∀ π, pN d π → pd_code d (tA d t) (tB d t) π < 100000) :
    ∃ τ, R_X7_leastSenses σ (nI t) (nI (pd_mf d (tA d t) (tB d t)).1) τ ∧ rs_h σ τ ∧ mD d τ ∧ τ 0 11 = 1 ∧ mS d τ := by
  obtain ⟨σ1, s1, s2, s3, s4, s5⟩ := sp_search h hm hM
  have hg : rs_h σ σ1 := ⟨fun c a1 a2 a3 a4 a5 _ => s2.1 c a1 a2 a3 a4 a5, s2.2⟩
  by_cases hn : pd_n d = 0
  · have ev : (pd_mf d (tA d t) (tB d t)).1 = 0 := by
      have eK : pd_K d = ([], [[]]) := by
        unfold pd_K
        rw [hn]
        rfl
      unfold pd_mf
      rw [eK]
      rfl
    have e13 := s5.1
    rw [if_pos hn] at e13
    refine ⟨σ1, ?_, hg, s3, s4, s5⟩
    unfold R_X7_leastSenses
    apply ru_R_X7_leastSenses_0
    unfold tr_R_X7_leastSenses_0
    refine ⟨σ1, s1, ?_⟩
    rw [e13, if_pos (by decide), ev]
    apply ru_R_X7_leastSenses_1
    unfold tr_R_X7_leastSenses_1
    rw [e13, if_pos (by decide)]
    exact ⟨rfl, rfl⟩
  · have e13 := s5.1
    rw [if_neg hn] at e13
    have h5 := pd_K_len h (by omega)
    have hne : (pd_K d).2 ≠ [] := pm_rfold_ne _ _ _ (Or.inl (pm_ext_ne _ _ _ (by simp)))
    have hl0 : 0 < (pd_K d).2.length := List.length_pos_iff.mpr hne
    obtain ⟨τ, t1, t2⟩ := sp_mLeast_1 h ht h5 (fun π hπ => pd_K_pN hπ) hcb (pd_K d).2.length 0 σ1 (by omega) s3 e13 (fun j hj => s5.2.2 j hn hj)
    have ev : ml (pd_code d (tA d t) (tB d t)) 100000 (pd_K d).2 = (pd_mf d (tA d t) (tB d t)).1 := by
      unfold pd_mf
      rw [pm_mf_1]
      refine ml_top _ hne (fun π hπ => ⟨hcb π (pd_K_pN hπ), ?_⟩)
      have := hcb π (pd_K_pN hπ)
      show _ < 2147483647
      omega
    rw [ev] at t1
    refine ⟨τ, ?_, ⟨fun c a1 a2 a3 a4 a5 a6 => (t2 c a2 a3 a6).trans (hg.1 c a1 a2 a3 a4 a5 a6), fun j j1 j2 => by rw [t2 0 (by decide) (by decide) (by decide)]; exact hg.2 j j1 j2⟩, mD_fr s3 (by rw [t2 0 (by decide) (by decide) (by decide)]; exact ⟨rfl, rfl⟩) (fun c _ h => t2 c (by omega) (by omega) (by omega)), by rw [t2 0 (by decide) (by decide) (by decide)]; exact s4, ?_⟩
    · unfold R_X7_leastSenses
      apply ru_R_X7_leastSenses_0
      unfold tr_R_X7_leastSenses_0
      refine ⟨σ1, s1, ?_⟩
      rw [e13, if_neg (nI_ne0 hl0 (by omega))]
      exact t1
    · unfold mS
      rw [t2 0 (by decide) (by decide) (by decide), t2 10 (by decide) (by decide) (by decide), t2 11 (by decide) (by decide) (by decide)]
      exact s5
end RS6
