/-! the reference: one numbering, then all of them -/
section RS4
variable {d : pd_D}
theorem sp_inner (h : pd_W d) {A : List Nat × List (List Nat)} {p : List Nat} (hp : pN d p) (hA : rs_L d A) (h5 : A.2.length < 5040) : ∀ m i (so : Int) (σ : sf_St), i + m = pd_n d → rs_J d A p i so σ →
    ∃ σ3, SI d (pm_rst (pd_row d) A p) p σ3 ∧ rs_f σ σ3 ∧ ∀ r τ' τ, R_X7_nextOrder σ3 r τ' → Rn_R_X7_search 1 τ' r 0 0 τ → Rn_R_X7_search 2 σ 1 (iI so) (nI i) τ := by
  have h7 := h.1.1
  intro m
  induction m with
  | zero =>
    intro i so σ hi hJ
    have hi' : i = pd_n d := by omega
    obtain ⟨σ3, s1, s2, s3⟩ := sp_exit h hp hA h5 (Or.inl hi') hJ
    refine ⟨σ3, s1, s2, fun r τ' τ hn hr => ?_⟩
    apply ru_R_X7_search_2
    unfold tr_R_X7_search_2
    rw [hJ.1.1.1, if_pos (nI_le (by omega) (by omega))]
    exact s3 (fun t r => Rn_R_X7_search 1 t r 0 0 τ) r τ' hn hr
  | succ m ih =>
    intro i so σ hi hJ
    have hin : i < pd_n d := by omega
    have hJ' := hJ
    obtain ⟨hm, hAp, hcc, hcase⟩ := hJ'
    have ii : vp_in (nI i) 7 := sp_in (by omega) (by decide)
    have hrow := sp_mRowOf h hm hp hAp hin
    rw [← pd_R_at hp hin] at hrow
    have hRb := pd_R_lt h hp i
    rcases hcase with ⟨rfl, hlt, hrw⟩ | ⟨rfl, hne, heq, hrw⟩ | ⟨rfl, hne, hlt, hneq, hrw⟩
    · obtain ⟨σ3, s1, s2, s3⟩ := ih (i + 1) (-1) (sf_up σ 10 i (nI ((pd_R d p).getD i 0))) (by omega) ⟨hm, hAp, hcc, Or.inl ⟨rfl, hlt, fun j hj => by
        rw [sf_up_at, if_pos rfl]
        by_cases hji : j = i
        · subst hji; rw [if_pos rfl]
        · rw [if_neg hji]; exact hrw j (by omega)⟩⟩
      refine ⟨σ3, s1, rs_f_t ⟨fun c _ _ a3 _ => sf_up_ne _ _ _ a3, fun j _ => by rw [sf_up_ne _ _ _ (by decide)]⟩ s2, fun r τ' τ hn hr => ?_⟩
      have g := s3 r τ' τ hn hr
      apply ru_R_X7_search_2
      unfold tr_R_X7_search_2
      rw [hm.1.1, if_neg (nI_ge (by omega) (by omega)), if_neg (by decide)]
      refine ⟨_, σ, hrow, ?_⟩
      rw [if_pos (by decide), if_neg (by decide), sp_ix (by omega)]
      refine ⟨ii, ?_⟩
      intro t1 h1 y hy
      rw [sp_inc] at hy
      subst h1
      subst hy
      exact g
    · have hLb := (hA hne).2 i
      have hat := pm_lt_at (pd_R_len hp) (hA hne).1 hin heq
      by_cases h1 : (pd_R d p).getD i 0 = A.1.getD i 0
      · obtain ⟨σ3, s1, s2, s3⟩ := ih (i + 1) 0 σ (by omega) ⟨hm, hAp, hcc, Or.inr (Or.inl ⟨rfl, hne, fun j hj => by
          by_cases hji : j = i
          · subst hji; exact h1
          · exact heq j (by omega), hrw⟩)⟩
        refine ⟨σ3, s1, s2, fun r τ' τ hn hr => ?_⟩
        have g := s3 r τ' τ hn hr
        apply ru_R_X7_search_2
        unfold tr_R_X7_search_2
        rw [hm.1.1, if_neg (nI_ge (by omega) (by omega)), if_neg (by decide)]
        refine ⟨_, σ, hrow, ?_⟩
        rw [if_neg (by decide), sp_ix (by omega)]
        refine ⟨ii, ?_⟩
        rw [if_pos (by rw [hrw i hin, h1]), if_pos (by decide), sf_up_self]
        refine ⟨ii, ii, ?_⟩
        intro t1 h1 y hy
        rw [sp_inc] at hy
        rw [h1, hy]
        exact g
      · have hne' : ¬ nI ((pd_R d p).getD i 0) = σ 10 i := fun q => by
          rw [hrw i hin] at q
          exact h1 ((nI_eq hRb hLb).mp q)
        by_cases h2 : A.1.getD i 0 ≤ (pd_R d p).getD i 0
        · obtain ⟨q1, q2⟩ := hat.2 (by omega)
          obtain ⟨σ3, s1, s2, s3⟩ := ih (i + 1) 1 σ (by omega) ⟨hm, hAp, hcc, Or.inr (Or.inr ⟨rfl, hne, q1, q2, hrw⟩)⟩
          refine ⟨σ3, s1, s2, fun r τ' τ hn hr => ?_⟩
          have g := s3 r τ' τ hn hr
          apply ru_R_X7_search_2
          unfold tr_R_X7_search_2
          rw [hm.1.1, if_neg (nI_ge (by omega) (by omega)), if_neg (by decide)]
          refine ⟨_, σ, hrow, ?_⟩
          rw [if_neg (by decide), sp_ix (by omega)]
          refine ⟨ii, ?_⟩
          rw [if_neg hne']
          refine ⟨ii, ?_⟩
          rw [if_pos (by rw [hrw i hin]; exact nI_le h2 hRb), if_pos (by decide), sf_up_self]
          refine ⟨ii, ii, ?_⟩
          intro t1 h1 y hy
          rw [sp_inc] at hy
          rw [h1, hy]
          exact g
        · obtain ⟨σ3, s1, s2, s3⟩ := ih (i + 1) (-1) (sf_up σ 10 i (nI ((pd_R d p).getD i 0))) (by omega) ⟨hm, hAp, hcc, Or.inl ⟨rfl, Or.inr (hat.1 (by omega)), fun j hj => by
            rw [sf_up_at, if_pos rfl]
            by_cases hji : j = i
            · subst hji; rw [if_pos rfl]
            · rw [if_neg hji, hrw j (by omega), heq j (by omega)]⟩⟩
          refine ⟨σ3, s1, rs_f_t ⟨fun c _ _ a3 _ => sf_up_ne _ _ _ a3, fun j _ => by rw [sf_up_ne _ _ _ (by decide)]⟩ s2, fun r τ' τ hn hr => ?_⟩
          have g := s3 r τ' τ hn hr
          apply ru_R_X7_search_2
          unfold tr_R_X7_search_2
          rw [hm.1.1, if_neg (nI_ge (by omega) (by omega)), if_neg (by decide)]
          refine ⟨_, σ, hrow, ?_⟩
          rw [if_neg (by decide), sp_ix (by omega)]
          refine ⟨ii, ?_⟩
          rw [if_neg hne']
          refine ⟨ii, ?_⟩
          rw [if_neg (by rw [hrw i hin]; exact nI_ge (by omega) hLb), if_neg (by decide)]
          refine ⟨ii, ?_⟩
          intro t1 h1 y hy
          rw [sp_inc] at hy
          subst h1
          subst hy
          rw [iI_m1]
          exact g
    · obtain ⟨σ3, s1, s2, s3⟩ := sp_exit h hp hA h5 (Or.inr rfl) hJ
      refine ⟨σ3, s1, s2, fun r τ' τ hn hr => ?_⟩
      apply ru_R_X7_search_2
      unfold tr_R_X7_search_2
      rw [hm.1.1, if_neg (nI_ge (by omega) (by omega)), if_pos (by decide)]
      exact s3 (fun t r => Rn_R_X7_search 1 t r 0 0 τ) r τ' hn hr
theorem sp_one (h : pd_W d) {A : List Nat × List (List Nat)} {p : List Nat} (hp : pN d p) (h5 : A.2.length < 5040) {σ : sf_St} (hS : SI d A p σ) :
    ∃ σ3, SI d (pm_rst (pd_row d) A p) p σ3 ∧ rs_f σ σ3 ∧ ∀ r τ' τ, R_X7_nextOrder σ3 r τ' → Rn_R_X7_search 1 τ' r 0 0 τ → Rn_R_X7_search 1 σ 1 0 0 τ := by
  obtain ⟨hm, hAp, hcc, hL, hrw⟩ := hS
  by_cases he : A.2 = []
  · obtain ⟨σ3, s1, s2, s3⟩ := sp_inner h hp hL h5 (pd_n d) 0 (-1) σ (by omega) ⟨hm, hAp, hcc, Or.inl ⟨rfl, Or.inl he, fun j hj => by omega⟩⟩
    refine ⟨σ3, s1, s2, fun r τ' τ hn hr => ?_⟩
    have g := s3 r τ' τ hn hr
    apply ru_R_X7_search_1
    unfold tr_R_X7_search_1
    rw [if_neg (by decide), hcc.1, he, if_pos (show nI ([] : List (List Nat)).length = (0 : Int32) from rfl), iI_m1]
    exact g
  · obtain ⟨σ3, s1, s2, s3⟩ := sp_inner h hp hL h5 (pd_n d) 0 0 σ (by omega) ⟨hm, hAp, hcc, Or.inr (Or.inl ⟨rfl, he, fun j hj => by omega, hrw he⟩)⟩
    refine ⟨σ3, s1, s2, fun r τ' τ hn hr => ?_⟩
    have g := s3 r τ' τ hn hr
    have hl0 : 0 < A.2.length := List.length_pos_iff.mpr he
    apply ru_R_X7_search_1
    unfold tr_R_X7_search_1
    rw [if_neg (by decide), hcc.1, if_neg (nI_ne0 hl0 (by omega))]
    exact g
theorem pm_rst_len (row : List Nat → Nat → Nat) (A : List Nat × List (List Nat)) (p : List Nat) : (pm_rst row A p).2.length ≤ A.2.length + 1 := by
  unfold pm_rst
  split
  · show 1 ≤ _; omega
  · split
    · show 1 ≤ _; omega
    · split
      · show (A.2 ++ [p]).length ≤ _; rw [List.length_append]; exact Nat.le_refl _
      · omega
/-- a chain of numberings, and what comes behind it -/
def SE (d : pd_D) (A : List Nat × List (List Nat)) (σ : sf_St) : Prop := mD d σ ∧ rs_c d A σ ∧ rs_L d A ∧ (A.2 ≠ [] → ∀ i, i < pd_n d → σ 10 i = nI (A.1.getD i 0))
def rs_q (d : pd_D) (A : List Nat × List (List Nat)) (σ : sf_St) (r : Int32) (q : Option (List Nat)) : Prop := match q with
  | none => r = 0 ∧ SE d A σ
  | some p => r = 1 ∧ SI d A p σ
theorem sp_step (h : pd_W d) (hn : 1 ≤ pd_n d) {p : List Nat} {A : List Nat × List (List Nat)} {σ : sf_St} (hp : pN d p) (h5 : A.2.length < 5040) (hS : SI d A p σ) : ∃ (r : Int32) (σ3 : sf_St), rs_f σ σ3 ∧ rs_q d (pm_rst (pd_row d) A p) σ3 r (pm_nx (pd_n d) p) ∧ ∀ τ, Rn_R_X7_search 1 σ3 r 0 0 τ → Rn_R_X7_search 1 σ 1 0 0 τ := by
  have h7 := h.1.1
  obtain ⟨σ1, s1, s2, s3⟩ := sp_one h hp h5 hS
  have hb : ∀ i, p.getD i 0 < 8 := fun i => by
    by_cases hi : i < pd_n d
    · have := pN_getD hp hi; omega
    · rw [List.getD_eq_getElem?_getD, List.getElem?_eq_none (by rw [hp.2]; omega)]
      decide
  obtain ⟨r, τ', t1, t2, t3⟩ := sp_next h7 hn s1.1.1.1 hp.2 s1.2.1 hb
  obtain ⟨m1, m2, m3, m4, m5⟩ := s1
  have n1 : mD d τ' := mD_fr m1 (by rw [t2 0 (by decide)]; exact ⟨rfl, rfl⟩) (fun c _ h => t2 c (by omega))
  have n3 : rs_c d (pm_rst (pd_row d) A p) τ' := by
    unfold rs_c
    rw [t2 0 (by decide), t2 11 (by decide)]
    exact m3
  have n5 : (pm_rst (pd_row d) A p).2 ≠ [] → ∀ i, i < pd_n d → τ' 10 i = nI ((pm_rst (pd_row d) A p).1.getD i 0) := by
    rw [t2 10 (by decide)]
    exact m5
  refine ⟨r, τ', rs_f_t s2 ⟨fun c _ a2 _ _ => t2 c a2, fun j _ => by rw [t2 0 (by decide)]⟩, ?_, fun τ hr => s3 r τ' τ t1 hr⟩
  unfold rs_q
  cases hx : pm_nx (pd_n d) p with
  | none =>
    rw [hx] at t3
    exact ⟨t3, n1, n3, m4, n5⟩
  | some p' =>
    rw [hx] at t3
    exact ⟨t3.1, n1, t3.2, n3, m4, n5⟩
theorem sp_chain (h : pd_W d) (hn : 1 ≤ pd_n d) {q : Option (List Nat)} : ∀ (C : List (List Nat)) (p : List Nat) (A : List Nat × List (List Nat)) (σ : sf_St), (∀ π ∈ p :: C, pN d π) → pm_ck (pd_n d) q (p :: C) = true → A.2.length + (p :: C).length ≤ 5040 → SI d A p σ →
    ∃ (r : Int32) (σ3 : sf_St), rs_f σ σ3 ∧ rs_q d ((p :: C).foldl (pm_rst (pd_row d)) A) σ3 r q ∧ ∀ τ, Rn_R_X7_search 1 σ3 r 0 0 τ → Rn_R_X7_search 1 σ 1 0 0 τ := by
  intro C
  induction C with
  | nil =>
    intro p A σ hN hck hl hS
    have hx : pm_nx (pd_n d) p = q := pm_nq_eq hck
    have := sp_step h hn (hN p List.mem_cons_self) (by simp at hl; omega) hS
    rw [hx] at this
    exact this
  | cons p' C ih =>
    intro p A σ hN hck hl hS
    have hck' : (pm_nq (pd_n d) p (some p') && pm_ck (pd_n d) q (p' :: C)) = true := hck
    rw [Bool.and_eq_true] at hck'
    have hx : pm_nx (pd_n d) p = some p' := pm_nq_eq hck'.1
    have hl' : A.2.length + (C.length + 1 + 1) ≤ 5040 := hl
    obtain ⟨r, σ1, s1, s2, s3⟩ := sp_step h hn (hN p List.mem_cons_self) (by omega) hS
    rw [hx] at s2
    obtain ⟨rfl, s2⟩ := s2
    have hle := pm_rst_len (pd_row d) A p
    obtain ⟨r, σ3, t1, t2, t3⟩ := ih p' (pm_rst (pd_row d) A p) σ1 (fun π hπ => hN π (List.mem_cons_of_mem _ hπ)) hck'.2 (by show _ + (C.length + 1) ≤ _; omega) s2
    exact ⟨r, σ3, rs_f_t s1 t1, t2, fun τ hr => s3 τ (t3 τ hr)⟩
theorem pm_rfold_len (row : List Nat → Nat → Nat) : ∀ (C : List (List Nat)) (A : List Nat × List (List Nat)), (C.foldl (pm_rst row) A).2.length ≤ A.2.length + C.length := by
  intro C
  induction C with
  | nil => intro A; exact Nat.le_refl _
  | cons p C ih =>
    intro A
    have h1 := ih (pm_rst row A p)
    have h2 := pm_rst_len row A p
    rw [List.foldl_cons, List.length_cons]
    omega
theorem sp_chain' (h : pd_W d) (hn : 1 ≤ pd_n d) {q : Option (List Nat)} {C : List (List Nat)} {p : List Nat} {A : List Nat × List (List Nat)} {σ : sf_St} (hh : C.head? = some p) (hN : ∀ π ∈ C, pN d π) (hck : pm_ck (pd_n d) q C = true) (hl : A.2.length + C.length ≤ 5040) (hS : SI d A p σ) :
    ∃ (r : Int32) (σ3 : sf_St), rs_f σ σ3 ∧ rs_q d (C.foldl (pm_rst (pd_row d)) A) σ3 r q ∧ (∀ τ, Rn_R_X7_search 1 σ3 r 0 0 τ → Rn_R_X7_search 1 σ 1 0 0 τ) ∧ (C.foldl (pm_rst (pd_row d)) A).2.length ≤ A.2.length + C.length := by
  cases C with
  | nil => cases hh
  | cons x C =>
    have : x = p := by simpa using hh
    subst this
    obtain ⟨r, σ3, t1, t2, t3⟩ := sp_chain h hn C x A σ hN hck hl hS
    exact ⟨r, σ3, t1, t2, t3, pm_rfold_len _ _ _⟩
end RS4
