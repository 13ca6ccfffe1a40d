/-! elements, senses, bonds are written -/
theorem sp_chr : sf_chr (nI 0) = nI 67 ∧ sf_chr (nI 1) = nI 78 ∧ sf_chr (nI 2) = nI 79 ∧ sf_chr (nI 3) = nI 70 ∧ sf_chr (nI 4) = nI 67 ∧ sf_chr (nI 5) = nI 83 := by decide +kernel
theorem sp_dig : ∀ j, j < 7 → (((48 : Int32) + nI j).toUInt32 % 65536).toInt32 = nI (48 + j) := by decide +kernel
theorem sp_addElement {L : List Nat} {σ : sf_St} (hT : cTx L σ) (hl : L.length + 2 ≤ 80) {e : Nat} (he : e < 6) : ∃ τ, R_X5_addElement σ (nI e) τ ∧ cTx (L ++ tx_e e) τ ∧ wf σ τ := by
  obtain ⟨k0, k1, k2, k3, k4, k5⟩ := sp_chr
  have one : ∀ c, c < 128 → sf_chr (nI e) = nI c → ¬ (nI e = (4 : Int32)) → tx_e e = [c] → ∃ τ, R_X5_addElement σ (nI e) τ ∧ cTx (L ++ tx_e e) τ ∧ wf σ τ := by
    intro c hc h1 h2 h3
    obtain ⟨τ, t1, t2, t3⟩ := sp_add hT (by omega) hc
    refine ⟨τ, ⟨nI c, σ, ⟨sp_in he (by decide), h1.symm, rfl⟩, τ, t1, ?_⟩, by rw [h3]; exact t2, t3⟩
    rw [if_neg h2]
  have hcs : e = 0 ∨ e = 1 ∨ e = 2 ∨ e = 3 ∨ e = 4 ∨ e = 5 := by omega
  rcases hcs with rfl | rfl | rfl | rfl | rfl | rfl
  · exact one 67 (by decide) k0 (by decide) rfl
  · exact one 78 (by decide) k1 (by decide) rfl
  · exact one 79 (by decide) k2 (by decide) rfl
  · exact one 70 (by decide) k3 (by decide) rfl
  · obtain ⟨τ, t1, t2, t3⟩ := sp_add hT (by omega) (show 67 < 128 by decide)
    obtain ⟨υ, u1, u2, u3⟩ := sp_add t2 (by rw [List.length_append, List.length_singleton]; omega) (show 108 < 128 by decide)
    refine ⟨υ, ⟨nI 67, σ, ⟨sp_in he (by decide), k4.symm, rfl⟩, τ, t1, ?_⟩, by rw [List.append_assoc] at u2; exact u2, wf_t t3 u3⟩
    rw [if_pos (by decide)]
    exact ⟨υ, u1, rfl⟩
  · exact one 83 (by decide) k5 (by decide) rfl
theorem sp_addSense {L : List Nat} {σ : sf_St} (hT : cTx L σ) (hl : L.length + 2 ≤ 80) {s : Int} (hs : p3 s) : ∃ τ, R_X5_addSense σ (iI s) τ ∧ cTx (L ++ tx_s s) τ ∧ wf σ τ := by
  obtain ⟨τ, t1, t2, t3⟩ := sp_add hT (by omega) (show 64 < 128 by decide)
  obtain ⟨υ, u1, u2, u3⟩ := sp_add t2 (by rw [List.length_append, List.length_singleton]; omega) (show 64 < 128 by decide)
  unfold R_X5_addSense
  rcases hs with rfl | rfl | rfl
  · refine ⟨τ, ?_, t2, t3⟩
    rw [if_neg (by decide)]
    refine ⟨τ, t1, ?_⟩
    rw [if_pos (by decide)]
  · refine ⟨σ, ?_, ?_, fun _ _ _ => rfl⟩
    · rw [if_pos (by decide), if_pos (by decide)]
    · have e : L ++ tx_s 0 = L := List.append_nil _
      rw [e]; exact hT
  · refine ⟨υ, ?_, by rw [List.append_assoc] at u2; exact u2, wf_t t3 u3⟩
    rw [if_neg (by decide)]
    refine ⟨τ, t1, ?_⟩
    rw [if_neg (by decide)]
    exact ⟨υ, u1, rfl⟩
theorem sp_addBond {L : List Nat} {σ : sf_St} (hT : cTx L σ) (hl : L.length + 5 ≤ 80) {j o : Nat} (hj : j < 7) (ho : 1 ≤ o ∧ o ≤ 3) {s : Int} (hs : p3 s) (hso : o ≠ 2 → s = 0) : ∃ τ, R_X5_addBond σ (nI j) (nI o) (iI s) τ ∧ cTx (L ++ tx_b j o s) τ ∧ wf σ τ := by
  have la : ∀ (M : List Nat) (c : Nat), (M ++ [c]).length = M.length + 1 := fun M c => by rw [List.length_append, List.length_singleton]
  obtain ⟨τ1, a1, a2, a3⟩ := sp_add hT (by omega) (show 40 < 128 by decide)
  obtain ⟨τ2, b1, b2, b3⟩ := sp_add a2 (by rw [la]; omega) (show 48 + j < 128 by omega)
  rw [← sp_dig j hj] at b1
  unfold R_X5_addBond
  have hc : o = 1 ∨ o = 2 ∨ o = 3 := by omega
  rcases hc with rfl | rfl | rfl
  · have : s = 0 := hso (by decide)
    subst this
    obtain ⟨τ3, c1, c2, c3⟩ := sp_add b2 (by rw [la, la]; omega) (show 41 < 128 by decide)
    refine ⟨τ3, ⟨τ1, a1, τ2, b1, ?_⟩, ?_, wf_t a3 (wf_t b3 c3)⟩
    · rw [if_neg (by decide), if_neg (by decide), if_pos (by decide)]
      exact ⟨τ3, c1, rfl⟩
    · rw [List.append_assoc, List.append_assoc] at c2
      exact c2
  · obtain ⟨τ3, c1, c2, c3⟩ := sp_add b2 (by rw [la, la]; omega) (show 61 < 128 by decide)
    have d2 := c2
    rcases hs with rfl | rfl | rfl
    · obtain ⟨τ4, d1, d2, d3⟩ := sp_add c2 (by rw [la, la, la]; omega) (show 116 < 128 by decide)
      obtain ⟨τ5, e1, e2, e3⟩ := sp_add d2 (by rw [la, la, la, la]; omega) (show 41 < 128 by decide)
      refine ⟨τ5, ⟨τ1, a1, τ2, b1, ?_⟩, ?_, wf_t a3 (wf_t b3 (wf_t c3 (wf_t d3 e3)))⟩
      · rw [if_pos (by decide)]
        refine ⟨τ3, c1, ?_⟩
        rw [if_neg (by decide), if_neg (by decide), if_pos (by decide)]
        exact ⟨τ4, d1, τ5, e1, rfl⟩
      · rw [List.append_assoc, List.append_assoc, List.append_assoc, List.append_assoc] at e2
        exact e2
    · obtain ⟨τ5, e1, e2, e3⟩ := sp_add c2 (by rw [la, la, la]; omega) (show 41 < 128 by decide)
      refine ⟨τ5, ⟨τ1, a1, τ2, b1, ?_⟩, ?_, wf_t a3 (wf_t b3 (wf_t c3 e3))⟩
      · rw [if_pos (by decide)]
        refine ⟨τ3, c1, ?_⟩
        rw [if_neg (by decide), if_pos (by decide)]
        exact ⟨τ5, e1, rfl⟩
      · rw [List.append_assoc, List.append_assoc, List.append_assoc] at e2
        exact e2
    · obtain ⟨τ4, d1, d2, d3⟩ := sp_add c2 (by rw [la, la, la]; omega) (show 99 < 128 by decide)
      obtain ⟨τ5, e1, e2, e3⟩ := sp_add d2 (by rw [la, la, la, la]; omega) (show 41 < 128 by decide)
      refine ⟨τ5, ⟨τ1, a1, τ2, b1, ?_⟩, ?_, wf_t a3 (wf_t b3 (wf_t c3 (wf_t d3 e3)))⟩
      · rw [if_pos (by decide)]
        refine ⟨τ3, c1, ?_⟩
        rw [if_neg (by decide), if_neg (by decide), if_neg (by decide)]
        exact ⟨τ4, d1, τ5, e1, rfl⟩
      · rw [List.append_assoc, List.append_assoc, List.append_assoc, List.append_assoc] at e2
        exact e2
  · have : s = 0 := hso (by decide)
    subst this
    obtain ⟨τ3, c1, c2, c3⟩ := sp_add b2 (by rw [la, la]; omega) (show 35 < 128 by decide)
    obtain ⟨τ5, e1, e2, e3⟩ := sp_add c2 (by rw [la, la, la]; omega) (show 41 < 128 by decide)
    refine ⟨τ5, ⟨τ1, a1, τ2, b1, ?_⟩, ?_, wf_t a3 (wf_t b3 (wf_t c3 e3))⟩
    · rw [if_neg (by decide), if_pos (by decide)]
      refine ⟨τ3, c1, ?_⟩
      rw [if_pos (by decide)]
      exact ⟨τ5, e1, rfl⟩
    · rw [List.append_assoc, List.append_assoc, List.append_assoc] at e2
      exact e2
theorem sp_putElement {L : List Nat} {σ : sf_St} (hT : mTx L σ) (hl : L.length + 2 ≤ 128) {e : Nat} (he : e < 6) : ∃ τ, R_X7_putElement σ (nI e) τ ∧ mTx (L ++ tx_e e) τ ∧ mwf σ τ := by
  unfold R_X7_putElement
  have hcs : e = 0 ∨ e = 1 ∨ e = 2 ∨ e = 3 ∨ e = 4 ∨ e = 5 := by omega
  rcases hcs with rfl | rfl | rfl | rfl | rfl | rfl
  · obtain ⟨τ, t1, t2, t3⟩ := sp_put hT (by omega) 67
    refine ⟨τ, ?_, t2, t3⟩
    rw [if_pos (by decide)]
    refine ⟨τ, t1, ?_⟩
    rw [if_neg (by decide)]
  · obtain ⟨τ, t1, t2, t3⟩ := sp_put hT (by omega) 78
    refine ⟨τ, ?_, t2, t3⟩
    rw [if_neg (by decide), if_neg (by decide), if_pos (by decide)]
    refine ⟨τ, t1, ?_⟩
    rw [if_neg (by decide)]
  · obtain ⟨τ, t1, t2, t3⟩ := sp_put hT (by omega) 79
    refine ⟨τ, ?_, t2, t3⟩
    rw [if_neg (by decide), if_neg (by decide), if_neg (by decide), if_pos (by decide)]
    refine ⟨τ, t1, ?_⟩
    rw [if_neg (by decide)]
  · obtain ⟨τ, t1, t2, t3⟩ := sp_put hT (by omega) 70
    refine ⟨τ, ?_, t2, t3⟩
    rw [if_neg (by decide), if_neg (by decide), if_neg (by decide), if_neg (by decide), if_pos (by decide)]
    refine ⟨τ, t1, ?_⟩
    rw [if_neg (by decide)]
  · obtain ⟨τ, t1, t2, t3⟩ := sp_put hT (by omega) 67
    obtain ⟨υ, u1, u2, u3⟩ := sp_put t2 (by rw [List.length_append, List.length_singleton]; omega) 108
    refine ⟨υ, ?_, by rw [List.append_assoc] at u2; exact u2, mwf_t t3 u3⟩
    rw [if_neg (by decide), if_pos (by decide)]
    refine ⟨τ, t1, ?_⟩
    rw [if_pos (by decide)]
    exact ⟨υ, u1, rfl⟩
  · obtain ⟨τ, t1, t2, t3⟩ := sp_put hT (by omega) 83
    refine ⟨τ, ?_, t2, t3⟩
    rw [if_neg (by decide), if_neg (by decide), if_neg (by decide), if_neg (by decide), if_neg (by decide)]
    refine ⟨τ, t1, ?_⟩
    rw [if_neg (by decide)]
section WR2
variable {d : pd_D} {π : List Nat}
theorem p3_ta (a : Nat) : p3 (pd_ta d π a) := p3_mul (p3_cs d a) (pd_os_pm _ _ _ _)
theorem p3_tb (k : Nat) : p3 (pd_tb d π k) := cd_B_p3 (p3_hs d k)
theorem pd_tb_o {k : Nat} (ho : pd_o d k ≠ 2) : pd_tb d π k = 0 := by
  have : pd_hs d k = 0 := by
    unfold pd_hs
    rw [if_neg (fun q => ho (by
      unfold pd_hi at q
      rw [Bool.and_eq_true, Bool.and_eq_true] at q
      exact eq_of_beq q.1.1))]
  unfold pd_tb
  rw [this, Int.zero_mul, Int.zero_mul]
theorem sp_putBond (h : pd_W d) (hp : pN d π) {L : List Nat} {σ : sf_St} (hm : mD d σ) (hN : mN d π σ) (hT : mTx L σ) (hl : L.length + 5 ≤ 128) {j k : Nat} (hk : k < pd_b d) : ∃ τ, R_X7_putBond σ (nI k) (nI j) τ ∧ mTx (L ++ tx_b j (pd_o d k) (pd_tb d π k)) τ ∧ mwf σ τ := by
  have h9 := h.1.2
  have la : ∀ (M : List Nat) (c : Nat), (M ++ [c]).length = M.length + 1 := fun M c => by rw [List.length_append, List.length_singleton]
  have ho := h.2.2.1 k hk
  have ik : vp_in (nI k) 9 := sp_in (by omega) (by decide)
  obtain ⟨τ1, a1, a2, a3⟩ := sp_put hT (by omega) 40
  obtain ⟨τ2, b1, b2, b3⟩ := sp_put a2 (by rw [la]; omega) (48 + j)
  have e48 : (48 : Int32) + nI j = nI (48 + j) := nI_add 48 j
  rw [← e48] at b1
  have w2 := mwf_t a3 b3
  have o2 : τ2 6 (sf_ix (nI k)) = nI (pd_o d k) := by rw [sp_ix (by omega)]; exact ((mD_w hm w2).2.2 k hk).2.2.1
  unfold R_X7_putBond
  have hc : pd_o d k = 1 ∨ pd_o d k = 2 ∨ pd_o d k = 3 := by omega
  rcases hc with ho' | ho' | ho'
  · have hs : pd_tb d π k = 0 := pd_tb_o (by omega)
    obtain ⟨τ3, c1, c2, c3⟩ := sp_put b2 (by rw [la, la]; omega) 41
    refine ⟨τ3, ⟨τ1, a1, τ2, b1, ik, ?_⟩, ?_, mwf_t w2 c3⟩
    · rw [o2, ho', if_neg (by decide), if_neg (by decide)]
      exact ⟨ik, τ3, c1, rfl⟩
    · rw [ho', hs]
      rw [List.append_assoc, List.append_assoc] at c2
      exact c2
  · obtain ⟨τ3, c1, c2, c3⟩ := sp_put b2 (by rw [la, la]; omega) 61
    have w3 := mwf_t w2 c3
    have o3 : τ3 6 (sf_ix (nI k)) = nI (pd_o d k) := by rw [sp_ix (by omega)]; exact ((mD_w hm w3).2.2 k hk).2.2.1
    have hs := sp_mHingeSense h (mD_w hm w3) hp (mN_w hN w3) hk
    rw [pd_hp_pi h hp hk] at hs
    have hs' : R_X7_hingeSense τ3 (nI k) (iI (pd_tb d π k)) τ3 := hs
    have h3 := p3_tb (d := d) (π := π) k
    rcases h3 with q | q | q
    · obtain ⟨τ4, d1, d2, d3⟩ := sp_put c2 (by rw [la, la, la]; omega) 116
      obtain ⟨τ5, e1, e2, e3⟩ := sp_put d2 (by rw [la, la, la, la]; omega) 41
      have o4 : τ4 6 (sf_ix (nI k)) = nI (pd_o d k) := by rw [sp_ix (by omega)]; exact ((mD_w hm (mwf_t w3 d3)).2.2 k hk).2.2.1
      refine ⟨τ5, ⟨τ1, a1, τ2, b1, ik, ?_⟩, ?_, mwf_t w3 (mwf_t d3 e3)⟩
      · rw [o2, ho', if_pos (by decide)]
        refine ⟨τ3, c1, _, τ3, hs', ?_⟩
        rw [q, if_neg (by decide), if_pos (by decide)]
        refine ⟨τ4, d1, ik, ?_⟩
        rw [o4, ho', if_neg (by decide)]
        exact ⟨τ5, e1, rfl⟩
      · rw [ho', q]
        rw [List.append_assoc, List.append_assoc, List.append_assoc, List.append_assoc] at e2
        exact e2
    · obtain ⟨τ5, e1, e2, e3⟩ := sp_put c2 (by rw [la, la, la]; omega) 41
      refine ⟨τ5, ⟨τ1, a1, τ2, b1, ik, ?_⟩, ?_, mwf_t w3 e3⟩
      · rw [o2, ho', if_pos (by decide)]
        refine ⟨τ3, c1, _, τ3, hs', ?_⟩
        rw [q, if_pos (by decide)]
        refine ⟨ik, ?_⟩
        rw [o3, ho', if_neg (by decide)]
        exact ⟨τ5, e1, rfl⟩
      · rw [ho', q]
        rw [List.append_assoc, List.append_assoc, List.append_assoc] at e2
        exact e2
    · obtain ⟨τ4, d1, d2, d3⟩ := sp_put c2 (by rw [la, la, la]; omega) 99
      obtain ⟨τ5, e1, e2, e3⟩ := sp_put d2 (by rw [la, la, la, la]; omega) 41
      have o4 : τ4 6 (sf_ix (nI k)) = nI (pd_o d k) := by rw [sp_ix (by omega)]; exact ((mD_w hm (mwf_t w3 d3)).2.2 k hk).2.2.1
      refine ⟨τ5, ⟨τ1, a1, τ2, b1, ik, ?_⟩, ?_, mwf_t w3 (mwf_t d3 e3)⟩
      · rw [o2, ho', if_pos (by decide)]
        refine ⟨τ3, c1, _, τ3, hs', ?_⟩
        rw [q, if_neg (by decide), if_neg (by decide)]
        refine ⟨τ4, d1, ik, ?_⟩
        rw [o4, ho', if_neg (by decide)]
        exact ⟨τ5, e1, rfl⟩
      · rw [ho', q]
        rw [List.append_assoc, List.append_assoc, List.append_assoc, List.append_assoc] at e2
        exact e2
  · have hs : pd_tb d π k = 0 := pd_tb_o (by omega)
    obtain ⟨τ3, c1, c2, c3⟩ := sp_put b2 (by rw [la, la]; omega) 35
    obtain ⟨τ5, e1, e2, e3⟩ := sp_put c2 (by rw [la, la, la]; omega) 41
    refine ⟨τ5, ⟨τ1, a1, τ2, b1, ik, ?_⟩, ?_, mwf_t w2 (mwf_t c3 e3)⟩
    · rw [o2, ho', if_neg (by decide)]
      refine ⟨ik, ?_⟩
      rw [if_pos (by decide)]
      exact ⟨τ3, c1, τ5, e1, rfl⟩
    · rw [ho', hs]
      rw [List.append_assoc, List.append_assoc, List.append_assoc] at e2
      exact e2
/-- the class: the text of one atom's bonds, of the atoms -/
def cWr (d : pd_D) (π : List Nat) (σ : sf_St) : Prop := cD d σ ∧ (∀ i, i < pd_n d → σ 41 i = nI (π.getD i 0)) ∧ cNn d 42 (pd_num π) σ ∧ (∀ a, a < pd_n d → σ 18 a = iI (pd_cs d a)) ∧ ∀ k, k < pd_b d → σ 19 k = iI (pd_hs d k)
theorem cWr_w {σ τ : sf_St} (h : cWr d π σ) (hw : wf σ τ) : cWr d π τ := by
  obtain ⟨h1, h2, h3, h4, h5⟩ := h
  refine ⟨cD_fr h1 (fun c c1 c2 => hw c (by omega) (by omega)), ?_, ?_, ?_, ?_⟩
  · rw [hw 41 (by decide) (by decide)]; exact h2
  · unfold cNn; rw [hw 42 (by decide) (by decide)]; exact h3
  · rw [hw 18 (by decide) (by decide)]; exact h4
  · rw [hw 19 (by decide) (by decide)]; exact h5
theorem sp_W_2 (h : pd_W d) (hp : pN d π) {i : Nat} (hi : i < pd_n d) {P : List Nat} (hP : P.length ≤ 5 * i + 5 * (bl_H d π i).length + 4) : ∀ m j (σ : sf_St), j + m = i → cWr d π σ → cTx (P ++ tx_J d π i j) σ →
    ∃ υ, cTx (P ++ tx_J d π i i ++ [59]) υ ∧ wf σ υ ∧ ∀ τ, Rn_R_X5_describe 1 υ (nI (i + 1)) 0 0 τ → Rn_R_X5_describe 2 σ (nI i) (nI (π.getD i 0)) (nI j) τ := by
  have h7 := h.1.1
  have h9 := h.1.2
  intro m
  induction m with
  | zero =>
    intro j σ hj hW hT
    have hj' : j = i := by omega
    subst hj'
    have hb := bl_len hp (i := j) (j := j) (by omega) (Nat.le_refl _) (Or.inl hi)
    have hJ := tx_J_len (d := d) (π := π) j j
    obtain ⟨υ, u1, u2, u3⟩ := sp_add hT (by rw [List.length_append]; omega) (show 59 < 128 by decide)
    refine ⟨υ, u2, u3, fun τ hx => ?_⟩
    apply ru_R_X5_describe_2
    unfold tr_R_X5_describe_2
    rw [if_pos (nI_le (by omega) (by omega))]
    refine ⟨υ, u1, ?_⟩
    intro y hy
    rw [sp_inc] at hy
    subst hy
    exact hx
  | succ m ih =>
    intro j σ hj hW hT
    have g1 := pN_getD hp hi
    have g2 := pN_getD hp (show j < pd_n d by omega)
    have hbo := sp_bondOf hW.1 (a := π.getD i 0) (b := π.getD j 0) (by omega) (by omega)
    cases hb : pd_bo d (π.getD i 0) (π.getD j 0) with
    | none =>
      have e1 : pd_lk d (π.getD i 0) (π.getD j 0) = 0 := by unfold pd_lk; rw [hb]
      have e2 : tx_J d π i (j + 1) = tx_J d π i j := by
        show tx_J d π i j ++ tx_1 d π i j = _
        have : tx_1 d π i j = [] := by unfold tx_1; rw [hb]
        rw [this, List.append_nil]
      obtain ⟨υ, u1, u2, u3⟩ := ih (j + 1) σ (by omega) hW (by rw [e2]; exact hT)
      refine ⟨υ, u1, u2, fun τ hx => ?_⟩
      apply ru_R_X5_describe_2
      unfold tr_R_X5_describe_2
      rw [if_neg (nI_ge (by omega) (by omega)), sp_ix (by omega), hW.2.1 j (by omega)]
      refine ⟨sp_in (by omega) (by decide), _, σ, hbo, ?_⟩
      rw [e1, if_pos (by decide)]
      intro y hy
      rw [sp_inc] at hy
      subst hy
      exact u3 τ hx
    | some k =>
      have e1 : pd_lk d (π.getD i 0) (π.getD j 0) = k + 1 := by unfold pd_lk; rw [hb]
      have hk := (pd_bo_some hb).1
      have ho := h.2.2.1 k hk
      have e2 : tx_J d π i (j + 1) = tx_J d π i j ++ tx_b j (pd_o d k) (pd_tb d π k) := by
        show tx_J d π i j ++ tx_1 d π i j = _
        have : tx_1 d π i j = tx_b j (pd_o d k) (pd_tb d π k) := by unfold tx_1; rw [hb]
        rw [this]
      have hbl := bl_len hp (i := i) (j := j + 1) (by omega) (by omega) (Or.inl hi)
      have e3 : bl_J d π i (j + 1) = bl_J d π i j ++ [k] := by
        show bl_J d π i j ++ (pd_bo d (π.getD i 0) (π.getD j 0)).toList = _
        rw [hb]; rfl
      rw [e3, List.length_append, List.length_singleton] at hbl
      have hJ := tx_J_len (d := d) (π := π) i j
      obtain ⟨σ1, s1, s2, s3⟩ := sp_addBond hT (by rw [List.length_append]; omega) (show j < 7 by omega) (show 1 ≤ pd_o d k ∧ pd_o d k ≤ 3 by omega) (p3_tb (d := d) (π := π) k) (fun q => pd_tb_o q)
      obtain ⟨υ, u1, u2, u3⟩ := ih (j + 1) σ1 (by omega) (cWr_w hW s3) (by rw [e2, ← List.append_assoc]; exact s2)
      refine ⟨υ, u1, wf_t s3 u2, fun τ hx => ?_⟩
      apply ru_R_X5_describe_2
      unfold tr_R_X5_describe_2
      rw [if_neg (nI_ge (by omega) (by omega)), sp_ix (by omega), hW.2.1 j (by omega)]
      refine ⟨sp_in (by omega) (by decide), _, σ, hbo, ?_⟩
      rw [e1, nI_pred, if_neg (sp_m1 (by omega)), sp_ix (by omega)]
      refine ⟨_, σ, sp_nSenseOfBond h hW.1 hW.2.2.1 hk (hW.2.2.2.2 k hk) (p3_hs d k), sp_in (by omega) (by decide), ?_⟩
      rw [(hW.1.2.2.1 k hk).2.2.1]
      refine ⟨σ1, s1, ?_⟩
      intro y hy
      rw [sp_inc] at hy
      subst hy
      exact u3 τ hx
theorem sp_W_1 (h : pd_W d) (hp : pN d π) : ∀ m i (σ : sf_St), i + m = pd_n d → cWr d π σ → cTx (tx_H d π i) σ →
    ∃ τ, Rn_R_X5_describe 1 σ (nI i) 0 0 τ ∧ cTx (tx_H d π (pd_n d)) τ ∧ wf σ τ := by
  have h7 := h.1.1
  have h9 := h.1.2
  intro m
  induction m with
  | zero =>
    intro i σ hi hW hT
    have hi' : i = pd_n d := by omega
    subst hi'
    refine ⟨σ, ?_, hT, fun _ _ _ => rfl⟩
    apply ru_R_X5_describe_1
    unfold tr_R_X5_describe_1
    rw [hW.1.1.1, if_pos (nI_le (by omega) (by omega))]
  | succ m ih =>
    intro i σ hi hW hT
    have hin : i < pd_n d := by omega
    have g1 := pN_getD hp hin
    have hH := tx_H_len (d := d) (π := π) i
    have hbl := bl_len hp (i := i) (j := 0) (by omega) (by omega) (Or.inr rfl)
    have z0 : (bl_J d π i 0).length = 0 := rfl
    have le := tx_e_len (pd_e d (π.getD i 0))
    have ls := tx_s_len (pd_ta d π (π.getD i 0))
    obtain ⟨τ1, a1, a2, a3⟩ := sp_addElement hT (by omega) (h.2.1 _ g1).1
    obtain ⟨τ2, b1, b2, b3⟩ := sp_addSense a2 (by rw [List.length_append]; omega) (p3_ta (d := d) (π := π) (π.getD i 0))
    have hW1 := cWr_w hW a3
    have hW2 := cWr_w hW1 b3
    obtain ⟨υ, u1, u2, u3⟩ := sp_W_2 h hp hin (P := tx_H d π i ++ tx_e (pd_e d (π.getD i 0)) ++ tx_s (pd_ta d π (π.getD i 0))) (by rw [List.length_append, List.length_append]; omega) i 0 τ2 (by omega) hW2 (by
      have e : ∀ P : List Nat, P ++ tx_J d π i 0 = P := fun P => List.append_nil _
      rw [e]; exact b2)
    obtain ⟨τ, t1, t2, t3⟩ := ih (i + 1) υ (by omega) (cWr_w hW2 u2) u1
    refine ⟨τ, ?_, t2, wf_t a3 (wf_t b3 (wf_t u2 t3))⟩
    apply ru_R_X5_describe_1
    unfold tr_R_X5_describe_1
    rw [hW.1.1.1, if_neg (nI_ge (by omega) (by omega)), sp_ix (by omega), hW.2.1 i hin]
    refine ⟨sp_in (by omega) (by decide), ?_⟩
    intro y hy
    subst hy
    rw [sp_ix (by omega), (hW.1.2.1 _ g1).1]
    refine ⟨sp_in (by omega) (by decide), τ1, a1, _, τ1, sp_nSenseOfAtom h hW1.1 hW1.2.2.1 g1 (hW1.2.2.2.1 _ g1) (p3_cs d _), τ2, b1, ?_⟩
    exact u3 τ t1
end WR2
