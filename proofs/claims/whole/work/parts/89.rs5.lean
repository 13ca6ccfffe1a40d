/-! the reference: what the search knows -/
section RS5
variable {d : pd_D}
theorem pm_rst_ne (row : List Nat → Nat → Nat) (A : List Nat × List (List Nat)) (p : List Nat) : (pm_rst row A p).2 ≠ [] := by
  unfold pm_rst
  by_cases he : A.2 = []
  · rw [if_pos he]; simp
  · rw [if_neg he]
    split
    · simp
    · split
      · simp
      · exact he
theorem pm_rfold_ne (row : List Nat → Nat → Nat) : ∀ (C : List (List Nat)) (A : List Nat × List (List Nat)), C ≠ [] ∨ A.2 ≠ [] → (C.foldl (pm_rst row) A).2 ≠ [] := by
  intro C
  induction C with
  | nil => intro A h; exact h.resolve_left (fun q => q rfl)
  | cons p C ih => intro A _; exact ih _ (Or.inr (pm_rst_ne row A p))
theorem pN_ext {k : Nat} {pre π : List Nat} (hpre : pm_ok (pd_n d) pre) (hk : pre.length + k = pd_n d) (hπ : π ∈ pm_ext (pd_n d) k pre) : pN d π := by
  obtain ⟨suf, rfl, h2, h3⟩ := pm_ext_mem _ _ _ _ hπ
  exact ⟨h3 hpre, by rw [List.length_append, h2]; exact hk⟩
theorem fm7 {α : Type} (g : Nat → List (List Nat)) (f : α → List Nat → α) (S : α) : ([0, 1, 2, 3, 4, 5, 6].flatMap g).foldl f S = (g 6).foldl f ((g 5).foldl f ((g 4).foldl f ((g 3).foldl f ((g 2).foldl f ((g 1).foldl f ((g 0).foldl f (S))))))) := by
  rw [pm_fm]
  rfl
theorem pm_e7 (g : List Nat → List (List Nat)) : ((List.range 7).filter (fun a => !([] : List Nat).contains a)).flatMap (fun a => g ([] ++ [a])) = [0, 1, 2, 3, 4, 5, 6].flatMap (fun a => g [a]) := by
  have e2 : (List.range 7).filter (fun a => !([] : List Nat).contains a) = [0, 1, 2, 3, 4, 5, 6] := by decide
  rw [e2]
  rfl
theorem pm_e77 : pm_ext 7 7 [] = [0, 1, 2, 3, 4, 5, 6].flatMap (fun a => pm_ext 7 6 [a]) := by
  rw [pm_ext]
  exact pm_e7 (pm_ext 7 6)
theorem pm_K7 {α : Type} (f : α → List Nat → α) (S : α) : (pm_ext 7 7 []).foldl f S = (pm_ext 7 6 [6]).foldl f ((pm_ext 7 6 [5]).foldl f ((pm_ext 7 6 [4]).foldl f ((pm_ext 7 6 [3]).foldl f ((pm_ext 7 6 [2]).foldl f ((pm_ext 7 6 [1]).foldl f ((pm_ext 7 6 [0]).foldl f (S))))))) := by
  rw [pm_e77]
  exact fm7 (fun a => pm_ext 7 6 [a]) f S
theorem sp_7 (h : pd_W d) (hn : 1 ≤ pd_n d) {σ : sf_St} {C0 : List (List Nat)} {p0 : List Nat} {C1 : List (List Nat)} {p1 : List Nat} {C2 : List (List Nat)} {p2 : List Nat} {C3 : List (List Nat)} {p3 : List Nat} {C4 : List (List Nat)} {p4 : List Nat} {C5 : List (List Nat)} {p5 : List Nat} {C6 : List (List Nat)} {p6 : List Nat} (hd0 : C0.head? = some p0) (hN0 : ∀ π ∈ C0, pN d π) (hk0 : pm_ck (pd_n d) (some p1) C0 = true) (hl0 : C0.length = 720) (hd1 : C1.head? = some p1) (hN1 : ∀ π ∈ C1, pN d π) (hk1 : pm_ck (pd_n d) (some p2) C1 = true) (hl1 : C1.length = 720) (hd2 : C2.head? = some p2) (hN2 : ∀ π ∈ C2, pN d π) (hk2 : pm_ck (pd_n d) (some p3) C2 = true) (hl2 : C2.length = 720) (hd3 : C3.head? = some p3) (hN3 : ∀ π ∈ C3, pN d π) (hk3 : pm_ck (pd_n d) (some p4) C3 = true) (hl3 : C3.length = 720) (hd4 : C4.head? = some p4) (hN4 : ∀ π ∈ C4, pN d π) (hk4 : pm_ck (pd_n d) (some p5) C4 = true) (hl4 : C4.length = 720) (hd5 : C5.head? = some p5) (hN5 : ∀ π ∈ C5, pN d π) (hk5 : pm_ck (pd_n d) (some p6) C5 = true) (hl5 : C5.length = 720) (hd6 : C6.head? = some p6) (hN6 : ∀ π ∈ C6, pN d π) (hk6 : pm_ck (pd_n d) none C6 = true) (hl6 : C6.length = 720) (S0 : SI d ([], []) p0 σ) : ∃ τ, Rn_R_X7_search 1 σ 1 0 0 τ ∧ rs_f σ τ ∧ SE d (C6.foldl (pm_rst (pd_row d)) (C5.foldl (pm_rst (pd_row d)) (C4.foldl (pm_rst (pd_row d)) (C3.foldl (pm_rst (pd_row d)) (C2.foldl (pm_rst (pd_row d)) (C1.foldl (pm_rst (pd_row d)) (C0.foldl (pm_rst (pd_row d)) ([], [])))))))) τ := by
  have fin : ∀ τ, Rn_R_X7_search 1 τ 0 0 0 τ := fun τ => by
    apply ru_R_X7_search_1
    unfold tr_R_X7_search_1
    rw [if_pos rfl]
  obtain ⟨r0, σ0, a0, b0, c0, d0⟩ := sp_chain' h hn hd0 hN0 hk0 (by rw [hl0]; show 0 + 720 ≤ 5040; decide) S0
  obtain ⟨rfl, b0⟩ := b0
  rw [hl0] at d0
  have d0 : _ ≤ 0 + 720 := d0
  obtain ⟨r1, σ1, a1, b1, c1, d1⟩ := sp_chain' h hn hd1 hN1 hk1 (by rw [hl1]; omega) b0
  obtain ⟨rfl, b1⟩ := b1
  rw [hl1] at d1
  obtain ⟨r2, σ2, a2, b2, c2, d2⟩ := sp_chain' h hn hd2 hN2 hk2 (by rw [hl2]; omega) b1
  obtain ⟨rfl, b2⟩ := b2
  rw [hl2] at d2
  obtain ⟨r3, σ3, a3, b3, c3, d3⟩ := sp_chain' h hn hd3 hN3 hk3 (by rw [hl3]; omega) b2
  obtain ⟨rfl, b3⟩ := b3
  rw [hl3] at d3
  obtain ⟨r4, σ4, a4, b4, c4, d4⟩ := sp_chain' h hn hd4 hN4 hk4 (by rw [hl4]; omega) b3
  obtain ⟨rfl, b4⟩ := b4
  rw [hl4] at d4
  obtain ⟨r5, σ5, a5, b5, c5, d5⟩ := sp_chain' h hn hd5 hN5 hk5 (by rw [hl5]; omega) b4
  obtain ⟨rfl, b5⟩ := b5
  rw [hl5] at d5
  obtain ⟨r6, σ6, a6, b6, c6, d6⟩ := sp_chain' h hn hd6 hN6 hk6 (by rw [hl6]; omega) b5
  obtain ⟨rfl, b6⟩ := b6
  rw [hl6] at d6
  exact ⟨σ6, c0 _ (c1 _ (c2 _ (c3 _ (c4 _ (c5 _ (c6 _ (fin σ6))))))), rs_f_t a0 (rs_f_t a1 (rs_f_t a2 (rs_f_t a3 (rs_f_t a4 (rs_f_t a5 a6))))), b6⟩
/-- all numberings have been seen -/
theorem sp_all (h : pd_W d) (hn : 1 ≤ pd_n d) {σ : sf_St} (hS : SI d ([], []) (List.range (pd_n d)) σ) : ∃ τ, Rn_R_X7_search 1 σ 1 0 0 τ ∧ rs_f σ τ ∧ SE d (pd_K d) τ := by
  have h7 := h.1.1
  have fin : ∀ τ, Rn_R_X7_search 1 τ 0 0 0 τ := fun τ => by
    apply ru_R_X7_search_1
    unfold tr_R_X7_search_1
    rw [if_pos rfl]
  have small : pm_ck (pd_n d) none (pm_ext (pd_n d) (pd_n d) []) = true → (pm_ext (pd_n d) (pd_n d) []).head? = some (List.range (pd_n d)) → (pm_ext (pd_n d) (pd_n d) []).length ≤ 5040 → ∃ τ, Rn_R_X7_search 1 σ 1 0 0 τ ∧ rs_f σ τ ∧ SE d (pd_K d) τ := by
    intro c1 c2 c3
    obtain ⟨r, τ, t1, t2, t3, -⟩ := sp_chain' h hn c2 (fun π hπ => pN_ext ⟨List.nodup_nil, fun a ha => by cases ha⟩ (by simp) hπ) c1 (by simpa using c3) hS
    obtain ⟨rfl, t2⟩ := t2
    exact ⟨τ, t3 τ (fin τ), t1, t2⟩
  have hc : pd_n d = 1 ∨ pd_n d = 2 ∨ pd_n d = 3 ∨ pd_n d = 4 ∨ pd_n d = 5 ∨ pd_n d = 6 ∨ pd_n d = 7 := by omega
  rcases hc with e | e | e | e | e | e | e
  · rw [e] at small; exact small pm_ck1 pm_hd1 pm_len1
  · rw [e] at small; exact small pm_ck2 pm_hd2 pm_len2
  · rw [e] at small; exact small pm_ck3 pm_hd3 pm_len3
  · rw [e] at small; exact small pm_ck4 pm_hd4 pm_len4
  · rw [e] at small; exact small pm_ck5 pm_hd5 pm_len5
  · rw [e] at small; exact small pm_ck6 pm_hd6 pm_len6
  · have hN : ∀ a, a < 7 → ∀ π ∈ pm_ext 7 6 [a], pN d π := fun a ha π hπ => by
      rw [← e] at ha
      refine pN_ext (k := 6) (pre := [a]) ⟨by simp, fun b hb => ?_⟩ (by rw [e]; rfl) (by rw [e]; exact hπ)
      have : b = a := by simpa using hb
      omega
    have S0 : SI d ([], []) [0, 1, 2, 3, 4, 5, 6] σ := by rw [e] at hS; exact hS
    obtain ⟨τ, t1, t2, t3⟩ := sp_7 h hn pm_hd7_0 (hN 0 (by decide)) (by rw [e]; exact pm_ck7_0) pm_len7_0 pm_hd7_1 (hN 1 (by decide)) (by rw [e]; exact pm_ck7_1) pm_len7_1 pm_hd7_2 (hN 2 (by decide)) (by rw [e]; exact pm_ck7_2) pm_len7_2 pm_hd7_3 (hN 3 (by decide)) (by rw [e]; exact pm_ck7_3) pm_len7_3 pm_hd7_4 (hN 4 (by decide)) (by rw [e]; exact pm_ck7_4) pm_len7_4 pm_hd7_5 (hN 5 (by decide)) (by rw [e]; exact pm_ck7_5) pm_len7_5 pm_hd7_6 (hN 6 (by decide)) (by rw [e]; exact pm_ck7_6) pm_len7_6 S0
    refine ⟨τ, t1, t2, ?_⟩
    unfold pd_K
    rw [e, pm_K7]
    exact t3
/-- what it leaves as it is -/
def rs_g (σ τ : sf_St) : Prop := (∀ c, c ≠ 0 → c ≠ 8 → c ≠ 9 → c ≠ 10 → c ≠ 11 → τ c = σ c) ∧ ∀ j, j ≠ 11 → j ≠ 13 → τ 0 j = σ 0 j
theorem sp_search (h : pd_W d) {σ : sf_St} (hm : mD d σ) (hM : iv_M d σ) : ∃ τ, R_X7_search σ τ ∧ rs_g σ τ ∧ mD d τ ∧ τ 0 11 = 1 ∧ mS d τ := by
  have h7 := h.1.1
  rcases hM with h0 | ⟨h1, hs⟩
  · have hm1 : mD d (sf_up σ 0 11 1) := hm
    obtain ⟨τ4, s1, s2, s3⟩ := sp_ownNumbers h hm1
    have hm4 : mD d (sf_up τ4 0 13 0) := mD_fr (τ := sf_up τ4 0 13 0) hm1 (by
        constructor
        · show τ4 0 0 = _; rw [s2 0 (by decide) (by decide)]
        · show τ4 0 4 = _; rw [s2 0 (by decide) (by decide)]) (fun c c1 c2 => by rw [sf_up_ne _ _ _ (show c ≠ 0 by omega)]; exact s2 c (by omega) (by omega))
    have g0 : rs_g σ (sf_up τ4 0 13 0) := ⟨fun c a1 a2 a3 a4 a5 => by rw [sf_up_ne _ _ _ a1, s2 c a2 a3, sf_up_ne _ _ _ a1], fun j j1 j2 => by rw [sf_up_at, if_pos rfl, if_neg j2, s2 0 (by decide) (by decide), sf_up_at, if_pos rfl, if_neg j1]⟩
    have k0 : sf_up τ4 0 13 0 0 11 = 1 := by rw [sf_up_at, if_pos rfl, if_neg (by decide), s2 0 (by decide) (by decide)]; rfl
    by_cases hn : pd_n d = 0
    · refine ⟨sf_up τ4 0 13 0, ?_, g0, hm4, k0, ?_⟩
      · unfold R_X7_search
        apply ru_R_X7_search_0
        unfold tr_R_X7_search_0
        rw [if_pos h0]
        intro t1 e1
        subst e1
        refine ⟨τ4, s1, ?_⟩
        intro t2 e2
        subst e2
        rw [hm4.1.1, hn, if_pos (by decide)]
        apply ru_R_X7_search_1
        unfold tr_R_X7_search_1
        rw [if_pos rfl]
      · unfold mS
        rw [if_pos hn]
        exact ⟨by rw [sf_up_at, if_pos rfl, if_pos rfl]; rfl, fun i hi => by omega, fun j hj => absurd hn hj⟩
    · obtain ⟨τ, t1, t2, t3⟩ := sp_all h (by omega) (σ := sf_up τ4 0 13 0) ⟨hm4, fun i hi => (s3 i hi).1, ⟨by rw [sf_up_at, if_pos rfl, if_pos rfl]; rfl, fun j hj => absurd hj (Nat.not_lt_zero _)⟩, fun q => absurd rfl q, fun q => absurd rfl q⟩
      obtain ⟨m1, m2, m3, m4⟩ := t3
      refine ⟨τ, ?_, ⟨fun c a1 a2 a3 a4 a5 => (t2.1 c a1 a2 a4 a5).trans (g0.1 c a1 a2 a3 a4 a5), fun j j1 j2 => (t2.2 j j2).trans (g0.2 j j1 j2)⟩, m1, (t2.2 11 (by decide)).trans k0, ?_⟩
      · unfold R_X7_search
        apply ru_R_X7_search_0
        unfold tr_R_X7_search_0
        rw [if_pos h0]
        intro t1 e1
        subst e1
        refine ⟨τ4, s1, ?_⟩
        intro t2 e2
        subst e2
        rw [hm4.1.1, if_neg (nI_nle (by omega) (by omega))]
        exact t1
      · have hne : (pd_K d).2 ≠ [] := pm_rfold_ne _ _ _ (Or.inl (pm_ext_ne _ _ _ (by simp)))
        unfold mS
        rw [if_neg hn]
        exact ⟨m2.1, m4 hne, fun j _ hj => m2.2 j hj⟩
  · refine ⟨σ, ?_, ⟨fun _ _ _ _ _ _ => rfl, fun _ _ _ => rfl⟩, hm, h1, hs⟩
    unfold R_X7_search
    apply ru_R_X7_search_0
    unfold tr_R_X7_search_0
    rw [if_neg (by rw [h1]; decide)]
end RS5
