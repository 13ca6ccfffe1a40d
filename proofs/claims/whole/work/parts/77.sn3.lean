/-! the reference: points, a centre's sense; the call sense -/
section SN3
variable {d : pd_D} {σ : sf_St}
/-- what the reference's state shows of a numbering -/
def mN (d : pd_D) (π : List Nat) (σ : sf_St) : Prop := ∀ i, i < pd_n d → σ 8 i = nI (π.getD i 0) ∧ σ 9 (π.getD i 0) = nI i
theorem pN_getD {π : List Nat} (hp : pN d π) {i : Nat} (hi : i < pd_n d) : π.getD i 0 < pd_n d := by
  have hl := hp.2
  have hi' : i < π.length := by omega
  have : π.getD i 0 = π[i] := by simp [List.getD_eq_getElem?_getD, List.getElem?_eq_getElem hi']
  rw [this]
  exact hp.1.2 _ (List.getElem_mem _)
def mP (d : pd_D) (a : Nat) (σ : sf_St) (L : List Nat) : Prop := ∀ i, i < L.length → σ 14 (3 * i) = iI (pd_x d (L.getD i 0) - pd_x d a) ∧ σ 14 (3 * i + 1) = iI (pd_y d (L.getD i 0) - pd_y d a) ∧ σ 14 (3 * i + 2) = iI (pd_z d a (L.getD i 0))
theorem sp_mPoints_1 (h : pd_W d) {π : List Nat} (hp : pN d π) {a : Nat} (ha : a < pd_n d) (h4 : (π.filter (pd_P d a (pd_n d))).length ≤ 4) : ∀ m k (σ : sf_St), k + m = pd_n d → mD d σ → mN d π σ → mP d a σ ((π.take k).filter (pd_P d a (pd_n d))) →
    ∃ τ, Rn_R_X7_points 1 σ (nI a) (nI ((π.take k).filter (pd_P d a (pd_n d))).length) (nI k) (nI (π.filter (pd_P d a (pd_n d))).length) τ ∧ (∀ c, c ≠ 14 → τ c = σ c) ∧ mP d a τ (π.filter (pd_P d a (pd_n d))) := by
  have h7 := h.1.1
  have h9 := h.1.2
  have hle : ∀ k, ((π.take k).filter (pd_P d a (pd_n d))).length ≤ 4 := fun k => Nat.le_trans (pd_take_le _ π k) h4
  intro m
  induction m with
  | zero =>
    intro k σ hk hm hN hP
    have hk' : k = pd_n d := by omega
    subst hk'
    have e : π.take (pd_n d) = π := List.take_of_length_le (by rw [hp.2]; exact Nat.le_refl _)
    rw [e] at hP ⊢
    refine ⟨σ, ?_, fun _ _ => rfl, hP⟩
    apply ru_R_X7_points_1
    unfold tr_R_X7_points_1
    rw [hm.1.1, if_pos (nI_le (by omega) (by omega))]
    exact ⟨rfl, rfl⟩
  | succ m ih =>
    intro k σ hk hm hN hP
    have hkn : k < pd_n d := by omega
    have hg := pN_getD hp hkn
    have hs := pd_take_filter (pd_P d a (pd_n d)) π (k := k) (by rw [hp.2]; exact hkn)
    rw [pd_P_n hg] at hs
    have hle1 := hle k
    have hle2 := hle (k + 1)
    have h8 := (hN k hkn).1
    have hbo' := sp_mBondOf h hm (a := a) (b := π.getD k 0) (by omega) (by omega)
    have ik : vp_in (nI k) 7 := sp_in (by omega) (by decide)
    have ia : vp_in (nI a) 7 := sp_in (by omega) (by decide)
    have ig : vp_in (nI (π.getD k 0)) 7 := sp_in (by omega) (by decide)
    cases hbo : pd_bo d a (π.getD k 0) with
    | none =>
      rw [hbo] at hs
      simp only [Option.isSome_none, Bool.false_eq_true, if_false, List.append_nil] at hs
      obtain ⟨τ, t1, t2, t3⟩ := ih (k + 1) σ (by omega) hm hN (by rw [hs]; exact hP)
      refine ⟨τ, ?_, t2, t3⟩
      rw [hs] at t1
      have e2 : pd_bi d a (π.getD k 0) = -1 := by unfold pd_bi; rw [hbo]
      rw [e2] at hbo'
      apply ru_R_X7_points_1
      unfold tr_R_X7_points_1
      rw [hm.1.1, if_neg (nI_ge (by omega) (by omega)), sp_ix (by omega), h8]
      refine ⟨ik, _, σ, hbo', ?_⟩
      rw [if_pos (by decide)]
      intro y hy
      rw [sp_inc] at hy
      subst hy
      exact t1
    | some j =>
      have e2 : pd_bi d a (π.getD k 0) = nI j := by unfold pd_bi; rw [hbo]
      obtain ⟨hj, -⟩ := pd_bo_some hbo
      obtain ⟨w1, w2, w3, w4, w5, w6⟩ := h.2.2.1 j hj
      rw [e2] at hbo'
      rw [hbo] at hs
      simp only [Option.isSome_some, if_true] at hs
      generalize hL : (π.take k).filter (pd_P d a (pd_n d)) = L at *
      generalize hq : π.getD k 0 = q at *
      rw [hs, List.length_append] at hle2
      simp only [List.length_singleton] at hle2
      have ez : pd_z d a q = if pd_f d j = a then (if pd_m d j = 1 then 1 else if pd_m d j = 2 then -1 else 0) else 0 := by unfold pd_z; rw [hbo]
      obtain ⟨q1, q2, q3, q4⟩ := hm.2.2 j hj
      obtain ⟨x1, x2, x3⟩ := hm.2.1 q hg
      obtain ⟨a1, a2, a3⟩ := hm.2.1 a ha
      have key : ∃ τ, Rn_R_X7_points 1 (sf_up (sf_up (sf_up σ 14 (3 * L.length) (iI (pd_x d q - pd_x d a))) 14 (3 * L.length + 1) (iI (pd_y d q - pd_y d a))) 14 (3 * L.length + 2) (iI (pd_z d a q))) (nI a) (nI (L.length + 1)) (nI (k + 1)) (nI (π.filter (pd_P d a (pd_n d))).length) τ ∧ (∀ c, c ≠ 14 → τ c = σ c) ∧ mP d a τ (π.filter (pd_P d a (pd_n d))) := by
        obtain ⟨τ, t1, t2, t3⟩ := ih (k + 1) (sf_up (sf_up (sf_up σ 14 (3 * L.length) (iI (pd_x d q - pd_x d a))) 14 (3 * L.length + 1) (iI (pd_y d q - pd_y d a))) 14 (3 * L.length + 2) (iI (pd_z d a q))) (by omega) hm hN (by
          rw [hs]
          intro i hi
          rw [List.length_append, List.length_singleton] at hi
          by_cases hiL : i = L.length
          · subst hiL
            rw [pd_getD_app_r]
            refine ⟨?_, ?_, ?_⟩
            · rw [sf_up_at, if_pos rfl, if_neg (by omega), sf_up_at, if_pos rfl, if_neg (by omega), sf_up_at, if_pos rfl, if_pos rfl]
            · rw [sf_up_at, if_pos rfl, if_neg (by omega), sf_up_at, if_pos rfl, if_pos rfl]
            · rw [sf_up_at, if_pos rfl, if_pos rfl]
          · rw [pd_getD_app_l _ _ (by omega)]
            obtain ⟨p1, p2, p3⟩ := hP i (by omega)
            refine ⟨?_, ?_, ?_⟩
            · rw [sf_up_at, if_pos rfl, if_neg (by omega), sf_up_at, if_pos rfl, if_neg (by omega), sf_up_at, if_pos rfl, if_neg (by omega)]; exact p1
            · rw [sf_up_at, if_pos rfl, if_neg (by omega), sf_up_at, if_pos rfl, if_neg (by omega), sf_up_at, if_pos rfl, if_neg (by omega)]; exact p2
            · rw [sf_up_at, if_pos rfl, if_neg (by omega), sf_up_at, if_pos rfl, if_neg (by omega), sf_up_at, if_pos rfl, if_neg (by omega)]; exact p3)
        rw [hs, List.length_append, List.length_singleton] at t1
        refine ⟨τ, t1, fun c hc => (t2 c hc).trans ?_, t3⟩
        rw [sf_up_ne _ _ _ hc, sf_up_ne _ _ _ hc, sf_up_ne _ _ _ hc]
      obtain ⟨τ, t1, t2, t3⟩ := key
      refine ⟨τ, ?_, t2, t3⟩
      apply ru_R_X7_points_1
      unfold tr_R_X7_points_1
      rw [hm.1.1, if_neg (nI_ge (by omega) (by omega)), sp_ix (by omega), h8]
      refine ⟨ik, _, σ, hbo', ?_⟩
      rw [if_neg (show ¬ nI j < (0 : Int32) from by rw [sq_neg (by omega)]; exact fun q => q)]
      have m3 : (3 : Int32) * nI L.length = nI (3 * L.length) := pk_mul 3 _
      have m31 : (3 : Int32) * nI L.length + 1 = nI (3 * L.length + 1) := by rw [m3, sp_inc]
      have m32 : nI (3 * L.length) + (2 : Int32) = nI (3 * L.length + 2) := nI_add _ 2
      have ij : vp_in (nI j) 9 := sp_in (by omega) (by decide)
      simp only [forall_eq, m31, m32, m3, sp_inc, sp_ix (show 3 * L.length < 2 ^ 31 by omega), sp_ix (show 3 * L.length + 1 < 2 ^ 31 by omega), sp_ix (show 3 * L.length + 2 < 2 ^ 31 by omega), sp_ix (show a < 2 ^ 31 by omega), sp_ix (show j < 2 ^ 31 by omega), h8, sp_ix (show q < 2 ^ 31 by omega)]
      refine ⟨ik, ig, ia, sp_in (by omega) (by decide), ?_⟩
      have c2 : σ 2 q - σ 2 a = iI (pd_x d q - pd_x d a) := by rw [x2, a2]; exact iI_sub _ _
      have c3 : σ 3 q - σ 3 a = iI (pd_y d q - pd_y d a) := by rw [x3, a3]; exact iI_sub _ _
      rw [c2]
      have g8 : ∀ i v, sf_up σ 14 i v 8 k = nI q := fun i v => h8
      simp only [g8, sp_ix (show q < 2 ^ 31 by omega)]
      refine ⟨ik, ig, ia, sp_in (by omega) (by decide), ?_⟩
      have d3 : ∀ i v, sf_up σ 14 i v 3 q - sf_up σ 14 i v 3 a = iI (pd_y d q - pd_y d a) := fun i v => c3
      have g4 : ∀ i v i' v', sf_up (sf_up σ 14 i v) 14 i' v' 4 j = nI (pd_f d j) := fun i v i' v' => q1
      have g7 : ∀ i v i' v', sf_up (sf_up σ 14 i v) 14 i' v' 7 j = nI (pd_m d j) := fun i v i' v' => q4
      simp only [d3, g4, g7]
      refine ⟨ij, ?_⟩
      rw [ez] at t1
      by_cases hf : pd_f d j = a
      · rw [if_pos hf] at t1
        rw [if_pos (by rw [hf])]
        refine ⟨ij, ?_⟩
        have hm3 : pd_m d j = 0 ∨ pd_m d j = 1 ∨ pd_m d j = 2 := by omega
        rcases hm3 with hm3 | hm3 | hm3
        · rw [hm3, if_neg (by decide), if_neg (by decide)] at t1
          rw [hm3, if_neg (by decide), if_neg (by decide)]
          exact ⟨ij, sp_in (by omega) (by decide), t1⟩
        · rw [hm3, if_pos (by decide)] at t1
          rw [hm3, if_pos (by decide)]
          exact ⟨sp_in (by omega) (by decide), t1⟩
        · rw [hm3, if_neg (by decide), if_pos (by decide)] at t1
          rw [hm3, if_neg (by decide), if_pos (by decide)]
          rw [iI_m1]
          exact ⟨ij, sp_in (by omega) (by decide), t1⟩
      · rw [if_neg hf] at t1
        rw [if_neg (fun w => hf ((nI_eq (by omega) (by omega)).mp w))]
        exact ⟨sp_in (by omega) (by decide), t1⟩
theorem sp_mPoints (h : pd_W d) (hm : mD d σ) {π : List Nat} (hp : pN d π) (hN : mN d π σ) {a : Nat} (ha : a < pd_n d) (h4 : (π.filter (pd_P d a (pd_n d))).length ≤ 4) :
    ∃ τ, R_X7_points σ (nI a) (nI (π.filter (pd_P d a (pd_n d))).length) τ ∧ (∀ c, c ≠ 14 → τ c = σ c) ∧ mP d a τ (π.filter (pd_P d a (pd_n d))) := by
  obtain ⟨τ, t1, t2, t3⟩ := sp_mPoints_1 h hp ha h4 (pd_n d) 0 σ (by omega) hm hN (fun i hi => by simp at hi)
  refine ⟨τ, ?_, t2, t3⟩
  unfold R_X7_points
  apply ru_R_X7_points_0
  unfold tr_R_X7_points_0
  exact t1
/-- with four neighbours: the points told from the fourth -/
theorem sp_mCs_ix : ∀ k, k < 9 → (9 : Int32) + (nI k - nI k / (3 : Int32) * (3 : Int32)) = nI (9 + k % 3) := by decide +kernel
theorem sp_mCs_1 (p : Nat → Int) (hb : (ps_d3 (p 0) (p 1) (p 2) (p 3) (p 4) (p 5) (p 6) (p 7) (p 8)).natAbs < 2 ^ 31) (u : Int32) : ∀ m k (σ : sf_St), k + m = 9 → (∀ i, i < 9 → (if k ≤ i then σ 14 i - σ 14 (9 + i % 3) else σ 14 i) = iI (p i)) →
    ∃ τ, Rn_R_X7_centreSense 1 σ u (nI k) (iI (Int.sign (ps_d3 (p 0) (p 1) (p 2) (p 3) (p 4) (p 5) (p 6) (p 7) (p 8)))) τ ∧ ∀ c, c ≠ 14 → τ c = σ c := by
  intro m
  induction m with
  | zero =>
    intro k σ hk hp
    have hk' : k = 9 := by omega
    subst hk'
    refine ⟨σ, ?_, fun _ _ => rfl⟩
    have hp' : ∀ i, i < 9 → σ 14 i = iI (p i) := fun i hi => by rw [← hp i hi, if_neg (by omega)]
    apply ru_R_X7_centreSense_1
    unfold tr_R_X7_centreSense_1
    rw [if_pos (by decide)]
    simp only [forall_eq]
    have e : ∀ i (v : Int32), i < 9 → sf_ix v = i → σ 14 (sf_ix v) = iI (p i) := fun i v hi hv => by rw [hv]; exact hp' i hi
    rw [e 0 0 (by decide) rfl, e 1 1 (by decide) rfl, e 2 2 (by decide) rfl, e 3 3 (by decide) rfl, e 4 4 (by decide) rfl, e 5 5 (by decide) rfl, e 6 6 (by decide) rfl, e 7 7 (by decide) rfl, e 8 8 (by decide) rfl]
    simp only [iI_add, iI_sub, iI_mul]
    exact ⟨_, σ, sp_mSign σ hb, rfl, rfl⟩
  | succ m ih =>
    intro k σ hk hp
    have hk9 : k < 9 := by omega
    obtain ⟨τ, t1, t2⟩ := ih (k + 1) (sf_up σ 14 k (σ 14 k - σ 14 (9 + k % 3))) (by omega) (by
      intro i hi
      have h1 := hp i hi
      have hm3 : i % 3 < 3 := Nat.mod_lt _ (by decide)
      rw [sf_up_at, if_pos rfl, sf_up_at, if_pos rfl]
      by_cases hik : i = k
      · subst hik
        rw [if_neg (by omega), if_pos rfl]
        rw [if_pos (Nat.le_refl _)] at h1
        exact h1
      · rw [if_neg hik, if_neg (show ¬ 9 + i % 3 = k by omega)]
        by_cases hki : k ≤ i
        · rw [if_pos (by omega)]
          rw [if_pos hki] at h1
          exact h1
        · rw [if_neg (by omega)]
          rw [if_neg hki] at h1
          exact h1)
    refine ⟨τ, ?_, fun c hc => (t2 c hc).trans (sf_up_ne σ _ _ hc)⟩
    apply ru_R_X7_centreSense_1
    unfold tr_R_X7_centreSense_1
    rw [if_neg (show ¬ (9 : Int32) ≤ nI k from nI_ge (a := k) (b := 9) hk9 (by decide)), sp_mCs_ix k hk9]
    have hm3 : k % 3 < 3 := Nat.mod_lt _ (by decide)
    rw [sp_ix (by omega), sp_ix (by omega)]
    refine ⟨sp_in (by omega) (by decide), sp_in (by omega) (by decide), sp_in (by omega) (by decide), ?_⟩
    simp only [forall_eq, sp_inc]
    exact t1
theorem iz_s {a b : Int} (ha : a.natAbs ≤ 1000) (hb : b.natAbs ≤ 1000) : (a - b).natAbs ≤ 2000 := by omega
theorem iz_s3 {a b c : Int} (ha : a.natAbs ≤ 1000) (hc : c.natAbs ≤ 1000) : (a - b - (c - b)).natAbs ≤ 2000 := by omega
theorem iz_z {a : Int} (ha : a.natAbs ≤ 1) : a.natAbs ≤ 2 := by omega
theorem iz_z2 {a b : Int} (ha : a.natAbs ≤ 1) (hb : b.natAbs ≤ 1) : (a - b).natAbs ≤ 2 := by omega
theorem sp_mCentreSense (h : pd_W d) (hm : mD d σ) {π : List Nat} (hp : pN d π) (hN : mN d π σ) {a : Nat} (ha : a < pd_n d) :
    ∃ τ, R_X7_centreSense σ (nI a) (iI (if pd_ce d a = true then pd_cL d a (π.filter (pd_P d a (pd_n d))) else 0)) τ ∧ ∀ c, c ≠ 14 → τ c = σ c := by
  have hce := sp_mCentre h hm ha
  unfold R_X7_centreSense
  by_cases hcc : pd_ce d a = true
  · have h34 := pd_ce_34 h ha hcc
    rw [← pd_fl_len hp] at h34
    rw [if_pos hcc] at hce ⊢
    obtain ⟨τ1, p1, p2, p3⟩ := sp_mPoints h hm hp hN ha (by omega)
    have hx : ∀ i, i < pd_n d → (pd_x d i).natAbs ≤ 1000 ∧ (pd_y d i).natAbs ≤ 1000 := fun i hi => by
      have := h.2.1 i hi
      omega
    have hlt : ∀ b ∈ π.filter (pd_P d a (pd_n d)), b < pd_n d := fun b hb => hp.1.2 b (List.mem_filter.mp hb).1
    unfold pd_cL
    generalize π.filter (pd_P d a (pd_n d)) = L at *
    have xa := hx a ha
    match L, h34 with
    | [p, q, r], _ =>
      have hp := hx p (hlt p (by simp))
      have hq := hx q (hlt q (by simp))
      have hr := hx r (hlt r (by simp))
      obtain ⟨c0, c1, c2⟩ := p3 0 (by simp)
      obtain ⟨c3, c4, c5⟩ := p3 1 (by simp)
      obtain ⟨c6, c7, c8⟩ := p3 2 (by simp)
      have z1 := pd_z_le d a p
      have z2 := pd_z_le d a q
      have z3 := pd_z_le d a r
      have hb := iz_d3 (a := pd_x d p - pd_x d a) (b := pd_y d p - pd_y d a) (c := pd_z d a p) (d := pd_x d q - pd_x d a) (e := pd_y d q - pd_y d a) (f := pd_z d a q) (g := pd_x d r - pd_x d a) (h := pd_y d r - pd_y d a) (i := pd_z d a r) (iz_s hp.1 xa.1) (iz_s hp.2 xa.2) (iz_z z1) (iz_s hq.1 xa.1) (iz_s hq.2 xa.2) (iz_z z2) (iz_s hr.1 xa.1) (iz_s hr.2 xa.2) (iz_z z3)
      refine ⟨τ1, ?_, p2⟩
      apply ru_R_X7_centreSense_0
      unfold tr_R_X7_centreSense_0
      refine ⟨_, σ, hce, ?_⟩
      rw [if_neg (by decide)]
      refine ⟨_, τ1, p1, ?_⟩
      rw [if_neg (show ¬ nI [p, q, r].length = (4 : Int32) from by show ¬ nI 3 = (4 : Int32); decide)]
      simp only [forall_eq]
      have e : ∀ i (v w : Int32), sf_ix v = i → τ1 14 i = w → τ1 14 (sf_ix v) = w := fun i v w hv hw => by rw [hv]; exact hw
      rw [e 0 0 _ rfl c0, e 1 1 _ rfl c1, e 2 2 _ rfl c2, e 3 3 _ rfl c3, e 4 4 _ rfl c4, e 5 5 _ rfl c5, e 6 6 _ rfl c6, e 7 7 _ rfl c7, e 8 8 _ rfl c8]
      simp only [iI_add, iI_sub, iI_mul]
      exact ⟨_, τ1, sp_mSign τ1 hb, rfl, rfl⟩
    | [p, q, r, s], _ =>
      have hp := hx p (hlt p (by simp))
      have hq := hx q (hlt q (by simp))
      have hr := hx r (hlt r (by simp))
      have hs := hx s (hlt s (by simp))
      obtain ⟨c0, c1, c2⟩ := p3 0 (by simp)
      obtain ⟨c3, c4, c5⟩ := p3 1 (by simp)
      obtain ⟨c6, c7, c8⟩ := p3 2 (by simp)
      obtain ⟨c9, c10, c11⟩ := p3 3 (by simp)
      have z1 := pd_z_le d a p
      have z2 := pd_z_le d a q
      have z3 := pd_z_le d a r
      have z4 := pd_z_le d a s
      have hb := iz_d3 (a := pd_x d p - pd_x d a - (pd_x d s - pd_x d a)) (b := pd_y d p - pd_y d a - (pd_y d s - pd_y d a)) (c := pd_z d a p - pd_z d a s) (d := pd_x d q - pd_x d a - (pd_x d s - pd_x d a)) (e := pd_y d q - pd_y d a - (pd_y d s - pd_y d a)) (f := pd_z d a q - pd_z d a s) (g := pd_x d r - pd_x d a - (pd_x d s - pd_x d a)) (h := pd_y d r - pd_y d a - (pd_y d s - pd_y d a)) (i := pd_z d a r - pd_z d a s) (iz_s3 hp.1 hs.1) (iz_s3 hp.2 hs.2) (iz_z2 z1 z4) (iz_s3 hq.1 hs.1) (iz_s3 hq.2 hs.2) (iz_z2 z2 z4) (iz_s3 hr.1 hs.1) (iz_s3 hr.2 hs.2) (iz_z2 z3 z4)
      obtain ⟨τ, t1, t2⟩ := sp_mCs_1 (fun i => ([pd_x d p - pd_x d a - (pd_x d s - pd_x d a), pd_y d p - pd_y d a - (pd_y d s - pd_y d a), pd_z d a p - pd_z d a s, pd_x d q - pd_x d a - (pd_x d s - pd_x d a), pd_y d q - pd_y d a - (pd_y d s - pd_y d a), pd_z d a q - pd_z d a s, pd_x d r - pd_x d a - (pd_x d s - pd_x d a), pd_y d r - pd_y d a - (pd_y d s - pd_y d a), pd_z d a r - pd_z d a s] : List Int).getD i 0) hb (nI a) 9 0 τ1 rfl (by
        intro i hi
        rw [if_pos (Nat.zero_le _)]
        clear p1 p2 p3 hb z1 z2 z3 z4 hp hq hr hs xa hx
        have h9 : i = 0 ∨ i = 1 ∨ i = 2 ∨ i = 3 ∨ i = 4 ∨ i = 5 ∨ i = 6 ∨ i = 7 ∨ i = 8 := by omega
        rcases h9 with rfl | rfl | rfl | rfl | rfl | rfl | rfl | rfl | rfl
        · exact (congr (congrArg _ c0) c9).trans (iI_sub _ _)
        · exact (congr (congrArg _ c1) c10).trans (iI_sub _ _)
        · exact (congr (congrArg _ c2) c11).trans (iI_sub _ _)
        · exact (congr (congrArg _ c3) c9).trans (iI_sub _ _)
        · exact (congr (congrArg _ c4) c10).trans (iI_sub _ _)
        · exact (congr (congrArg _ c5) c11).trans (iI_sub _ _)
        · exact (congr (congrArg _ c6) c9).trans (iI_sub _ _)
        · exact (congr (congrArg _ c7) c10).trans (iI_sub _ _)
        · exact (congr (congrArg _ c8) c11).trans (iI_sub _ _))
      refine ⟨τ, ?_, fun c hc => (t2 c hc).trans (p2 c hc)⟩
      apply ru_R_X7_centreSense_0
      unfold tr_R_X7_centreSense_0
      refine ⟨_, σ, hce, ?_⟩
      rw [if_neg (by decide)]
      refine ⟨_, τ1, p1, ?_⟩
      rw [if_pos (show nI [p, q, r, s].length = (4 : Int32) from by show nI 4 = (4 : Int32); decide)]
      exact t1
    | [], h34 => simp at h34
    | [_], h34 => simp at h34
    | [_, _], h34 => simp at h34
    | _ :: _ :: _ :: _ :: _ :: _, h34 => simp at h34
  · rw [if_neg hcc] at hce ⊢
    refine ⟨σ, ?_, fun _ _ => rfl⟩
    apply ru_R_X7_centreSense_0
    unfold tr_R_X7_centreSense_0
    exact ⟨_, σ, hce, by rw [if_pos rfl]; exact ⟨rfl, rfl⟩⟩
theorem sp_ownNumbers_1 (h7 : pd_n d ≤ 7) : ∀ m k (σ : sf_St), k + m = pd_n d → σ 0 0 = nI (pd_n d) → (∀ i, i < k → σ 8 i = nI i ∧ σ 9 i = nI i) → ∃ τ, Rn_R_X7_ownNumbers 1 σ (nI k) τ ∧ (∀ c, c ≠ 8 → c ≠ 9 → τ c = σ c) ∧ (∀ i, i < pd_n d → τ 8 i = nI i ∧ τ 9 i = nI i) := by
  intro m
  induction m with
  | zero =>
    intro k σ hk h0 hN
    have hk' : k = pd_n d := by omega
    subst hk'
    refine ⟨σ, ?_, fun _ _ _ => rfl, hN⟩
    apply ru_R_X7_ownNumbers_1
    unfold tr_R_X7_ownNumbers_1
    rw [h0, if_pos (nI_le (by omega) (by omega))]
  | succ m ih =>
    intro k σ hk h0 hN
    obtain ⟨τ, t1, t2, t3⟩ := ih (k + 1) (sf_up (sf_up σ 8 k (nI k)) 9 k (nI k)) (by omega) h0 (by
      intro i hi
      show (if i = k then nI k else σ 8 i) = nI i ∧ (if i = k then nI k else σ 9 i) = nI i
      by_cases hik : i = k
      · subst hik; rw [if_pos rfl, if_pos rfl]; exact ⟨rfl, rfl⟩
      · rw [if_neg hik, if_neg hik]; exact hN i (by omega))
    refine ⟨τ, ?_, fun c h1 h2 => (t2 c h1 h2).trans (by rw [sf_up_ne _ _ _ h2, sf_up_ne _ _ _ h1]), t3⟩
    apply ru_R_X7_ownNumbers_1
    unfold tr_R_X7_ownNumbers_1
    rw [h0, if_neg (nI_ge (by omega) (by omega)), sp_ix (by omega)]
    simp only [forall_eq, sp_inc]
    exact ⟨sp_in (by omega) (by decide), sp_in (by omega) (by decide), t1⟩
theorem pN_own : pN d (List.range (pd_n d)) := ⟨⟨List.nodup_range, fun a ha => List.mem_range.mp ha⟩, List.length_range⟩
theorem sp_ownNumbers (h : pd_W d) (hm : mD d σ) : ∃ τ, R_X7_ownNumbers σ τ ∧ (∀ c, c ≠ 8 → c ≠ 9 → τ c = σ c) ∧ mN d (List.range (pd_n d)) τ := by
  obtain ⟨τ, t1, t2, t3⟩ := sp_ownNumbers_1 h.1.1 (pd_n d) 0 σ (by omega) hm.1.1 (fun i hi => by omega)
  refine ⟨τ, ?_, t2, fun i hi => ?_⟩
  · unfold R_X7_ownNumbers
    apply ru_R_X7_ownNumbers_0
    unfold tr_R_X7_ownNumbers_0
    exact t1
  · have hg : (List.range (pd_n d)).getD i 0 = i := by simp [List.getD_eq_getElem?_getD, List.getElem?_range hi]
    rw [hg]
    exact t3 i hi
theorem inv_fr {τ τ' σ' : sf_St} (h : Inv σ σ') (h1 : ∀ c, c ≠ 21 → τ c = σ c) (h2 : ∀ c, c ≠ 8 → c ≠ 9 → c ≠ 14 → τ' c = σ' c) : Inv τ τ' := by
  obtain ⟨d, hw, hc, hm, hC, hM, hK, hT, hB⟩ := h
  refine ⟨d, hw, cD_fr hc (fun c _ h => h1 c (by omega)), mD_fr hm (by rw [h2 0 (by decide) (by decide) (by decide)]; exact ⟨rfl, rfl⟩) (fun c _ h => h2 c (by omega) (by omega) (by omega)), ?_, ?_, ?_, ?_, ?_⟩
  · unfold iv_C cS
    rw [h1 0 (by decide), h1 18 (by decide), h1 19 (by decide), h1 20 (by decide), h1 36 (by decide), h1 37 (by decide), h1 28 (by decide), h1 35 (by decide), h1 41 (by decide), h1 42 (by decide)]
    exact hC
  · unfold iv_M mS
    rw [h2 0 (by decide) (by decide) (by decide), h2 10 (by decide) (by decide) (by decide), h2 11 (by decide) (by decide) (by decide)]
    exact hM
  · unfold iv_K
    rw [h1 38 (by decide), h1 39 (by decide), h2 0 (by decide) (by decide) (by decide), h2 12 (by decide) (by decide) (by decide)]
    exact hK
  · unfold iv_T
    rw [h1 43 (by decide), h1 44 (by decide), h2 0 (by decide) (by decide) (by decide), h2 13 (by decide) (by decide) (by decide)]
    exact hT
  · unfold iv_B
    rw [h1 20 (by decide), h1 25 (by decide)]
    exact hB
theorem op_sense (σ σ' : sf_St) (a0 : Int32) (h : Inv σ σ') : ∃ (r : Int32) (τ τ' : sf_St), R_X6_sense σ a0 r τ ∧ R_X7_sense σ' a0 r τ' ∧ Inv τ τ' := by
  have hI := h
  obtain ⟨d, hw, hc, hm, -⟩ := h
  have h7 := hw.1.1
  unfold R_X6_sense R_X7_sense
  rcases sp_has (u := a0) (n := pd_n d) (by omega) with h | ⟨a, ha, rfl⟩
  · exact ⟨-1, σ, σ', ⟨0, σ, sp_hasAtom_no hc h, by simp⟩, ⟨0, σ', sp_mAtom_no hm h, by simp⟩, hI⟩
  obtain ⟨τ, t1, t2⟩ := sp_senseOfAtom hw hc ha
  obtain ⟨τ1, s1, s2, s3⟩ := sp_ownNumbers hw hm
  have hm1 : mD d τ1 := mD_fr hm (by rw [s2 0 (by decide) (by decide)]; exact ⟨rfl, rfl⟩) (fun c _ h => s2 c (by omega) (by omega))
  obtain ⟨τ', r1, r2⟩ := sp_mCentreSense hw hm1 pN_own s3 ha
  have hm2 : mD d τ' := mD_fr hm1 (by rw [r2 0 (by decide)]; exact ⟨rfl, rfl⟩) (fun c _ h => r2 c (by omega))
  have ec : (if pd_ce d a = true then pd_cL d a ((List.range (pd_n d)).filter (pd_P d a (pd_n d))) else 0) = pd_cs d a := rfl
  rw [ec] at r1
  have hc2 : cD d τ := cD_fr hc (fun c _ h => t2 c (by omega))
  have g1 := sp_isCentre hw hc2 ha
  have g2 := sp_mCentre hw hm2 ha
  have n01 : ¬ ((1 : Int32) = 0) := by decide
  refine ⟨iI (pd_cs d a) + 1 + (if pd_ce d a = true then 4 else 0), τ, τ', ⟨1, σ, sp_hasAtom_yes hw hc ha, ?_⟩, ⟨1, σ', sp_mAtom_yes hw hm ha, ?_⟩, inv_fr hI t2 (fun c h1 h2 h3 => (r2 c h3).trans (s2 c h1 h2))⟩
  · rw [if_neg n01]
    refine ⟨_, τ, t1, _, τ, g1, ?_⟩
    by_cases hce : pd_ce d a = true
    · rw [if_pos hce, if_pos hce, if_neg n01]; exact ⟨rfl, rfl⟩
    · rw [if_neg hce, if_neg hce, if_pos rfl]; exact ⟨rfl, rfl⟩
  · rw [if_neg n01]
    refine ⟨τ1, s1, _, τ', r1, _, τ', g2, ?_⟩
    by_cases hce : pd_ce d a = true
    · rw [if_pos hce, if_pos hce, if_neg n01]; exact ⟨rfl, rfl⟩
    · rw [if_neg hce, if_neg hce, if_pos rfl]; exact ⟨rfl, rfl⟩
end SN3
