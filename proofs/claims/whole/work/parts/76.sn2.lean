/-! an atom's neighbours: how many, and in the order of a numbering -/
theorem pd_len_sum (P : Nat → Bool) : ∀ n, ((List.range n).filter P).length = pd_sum (fun b => if P b = true then 1 else 0) n := by
  intro n
  induction n with
  | zero => rfl
  | succ n ih =>
    rw [List.range_succ, List.filter_append, List.length_append, ih]
    show _ = _ + (if P n = true then 1 else 0)
    by_cases h : P n = true
    · simp [h]
    · simp [h]
def pd_P (d : pd_D) (a ex b : Nat) : Bool := (pd_bo d a b).isSome && !(b == ex)
section SN2
variable {d : pd_D} {σ : sf_St}
theorem pd_nl_len (h : pd_W d) {a x ex : Nat} (hx : pd_xe d a x ex) : (pd_nl d a ex).length = pd_sc d a x := by
  unfold pd_nl
  rw [pd_len_sum]
  have e1 : pd_sc d a x = pd_sum (fun k => if pd_inc d k a = true then (fun k => if k = x then 0 else 1) k else 0) (pd_b d) := by
    unfold pd_sc
    refine pd_sum_congr _ (fun k _ => ?_)
    by_cases h1 : pd_inc d k a = true
    · by_cases h2 : k = x
      · simp [h1, h2]
      · simp [h1, h2]
    · simp [h1]
  rw [e1, ← pd_sum_og h]
  refine pd_sum_congr _ (fun b hb => ?_)
  unfold pd_og
  cases hbo : pd_bo d a b with
  | none => simp
  | some k =>
    have := hx b k hb hbo
    by_cases h2 : b = ex
    · have h3 := this.mpr h2
      simp [h2, h3]
    · have h3 : ¬ k = x := fun q => h2 (this.mp q)
      simp [h2, h3]
def pN (d : pd_D) (π : List Nat) : Prop := pm_ok (pd_n d) π ∧ π.length = pd_n d
theorem pN_mem {π : List Nat} (hp : pN d π) {a : Nat} (ha : a < pd_n d) : a ∈ π := by
  by_cases h : a ∈ π
  · exact h
  · exfalso
    have := pm_subset_len (a :: π) (List.range (pd_n d)) (List.nodup_cons.mpr ⟨h, hp.1.1⟩) (fun b hb => by
      rcases List.mem_cons.mp hb with e | hb
      · subst e; exact List.mem_range.mpr ha
      · exact List.mem_range.mpr (hp.1.2 b hb))
    simp only [List.length_cons, List.length_range] at this
    have := hp.2
    omega
theorem pN_so {π : List Nat} (hp : pN d π) : ps_so (pd_num π) π := by
  unfold ps_so
  rw [List.pairwise_iff_getElem]
  intro i j hi hj hij
  unfold pd_num
  rw [hp.1.1.idxOf_getElem i hi, hp.1.1.idxOf_getElem j hj]
  exact hij
theorem pN_inj {π : List Nat} (hp : pN d π) {a b : Nat} (ha : a < pd_n d) (hb : b < pd_n d) (h : pd_num π a = pd_num π b) : a = b := by
  have h1 := List.idxOf_lt_length_of_mem (pN_mem hp ha)
  have h2 := List.idxOf_lt_length_of_mem (pN_mem hp hb)
  have e1 := List.getElem_idxOf h1
  have e2 := List.getElem_idxOf h2
  unfold pd_num at h
  rw [← e1, ← e2]
  congr 1
theorem pd_nl_nodup (a ex : Nat) : (pd_nl d a ex).Nodup := List.Pairwise.filter _ List.nodup_range
theorem pd_nl_lt {a ex b : Nat} (h : b ∈ pd_nl d a ex) : b < pd_n d := List.mem_range.mp (List.mem_filter.mp h).1
/-- the neighbours as a numbering has them -/
theorem pd_nl_st {π : List Nat} (hp : pN d π) (a ex : Nat) : π.filter (pd_P d a ex) = ps_st (pd_num π) (pd_nl d a ex) := by
  refine ps_uni (pd_num π) _ _ (List.Pairwise.filter _ (pN_so hp)) (ps_st_so _ _ (pd_nl_nodup a ex) (fun x hx y hy => pN_inj hp (pd_nl_lt hx) (pd_nl_lt hy))) (fun x => ?_)
  rw [ps_st_mem, List.mem_filter]
  unfold pd_nl
  rw [List.mem_filter, List.mem_range]
  constructor
  · rintro ⟨h1, h2⟩
    exact ⟨hp.1.2 x h1, h2⟩
  · rintro ⟨h1, h2⟩
    exact ⟨pN_mem hp h1, h2⟩
theorem ps_in_len (num : Nat → Nat) (x : Nat) : ∀ L : List Nat, (ps_in num x L).length = L.length + 1 := by
  intro L
  induction L with
  | nil => rfl
  | cons y L ih =>
    unfold ps_in
    split
    · simp [ih]
    · rfl
theorem ps_st_len (num : Nat → Nat) : ∀ L : List Nat, (ps_st num L).length = L.length := by
  intro L
  induction L with
  | nil => rfl
  | cons x L ih => show (ps_in num x (ps_st num L)).length = _; rw [ps_in_len, ih]; rfl
theorem pd_fl_len {π : List Nat} (hp : pN d π) (a ex : Nat) : (π.filter (pd_P d a ex)).length = (pd_nl d a ex).length := by
  rw [pd_nl_st hp, ps_st_len]
theorem pd_ce_34 (h : pd_W d) {a : Nat} (ha : a < pd_n d) (hce : pd_ce d a = true) : (pd_nl d a (pd_n d)).length = 3 ∨ (pd_nl d a (pd_n d)).length = 4 := by
  rw [pd_nl_len h (pd_xe_none h a)]
  have h4 := pd_sc_le h ha (pd_b d) (pd_b d) (Nat.le_refl _)
  have h5 : pd_sc d a (pd_b d) ≤ 4 := h4
  unfold pd_ce at hce
  simp only [Bool.and_eq_true, beq_iff_eq, decide_eq_true_eq] at hce
  have := hce.2
  omega
theorem pd_P_n {a b : Nat} (hb : b < pd_n d) : pd_P d a (pd_n d) b = (pd_bo d a b).isSome := by
  unfold pd_P
  have : (b == pd_n d) = false := by simp; omega
  rw [this]
  simp
theorem pd_take_filter (P : Nat → Bool) (π : List Nat) {k : Nat} (hk : k < π.length) : (π.take (k + 1)).filter P = (π.take k).filter P ++ (if P (π.getD k 0) = true then [π.getD k 0] else []) := by
  rw [List.take_succ, List.filter_append]
  congr 1
  rw [List.getElem?_eq_getElem hk]
  have : π.getD k 0 = π[k] := by simp [List.getD_eq_getElem?_getD, List.getElem?_eq_getElem hk]
  rw [this]
  simp [List.filter_cons]
theorem pd_take_le (P : Nat → Bool) (π : List Nat) (k : Nat) : ((π.take k).filter P).length ≤ (π.filter P).length :=
  ((List.take_sublist k π).filter P).length_le
theorem pd_getD_app_l (L : List Nat) (p : Nat) {i : Nat} (h : i < L.length) : (L ++ [p]).getD i 0 = L.getD i 0 := by
  simp [List.getD_eq_getElem?_getD, List.getElem?_append_left h]
theorem pd_getD_app_r (L : List Nat) (p : Nat) : (L ++ [p]).getD L.length 0 = p := by
  simp [List.getD_eq_getElem?_getD]
theorem cD_fr {τ : sf_St} (hc : cD d σ) (h : ∀ c, 1 ≤ c → c < 17 → τ c = σ c) : cD d τ := by
  refine ⟨?_, fun i hi => ?_, fun k hk => ?_, fun a c ha hcc => ?_⟩
  · rw [h 1 (by decide) (by decide)]; exact hc.1
  · rw [h 2 (by decide) (by decide), h 3 (by decide) (by decide), h 4 (by decide) (by decide)]; exact hc.2.1 i hi
  · rw [h 5 (by decide) (by decide), h 6 (by decide) (by decide), h 7 (by decide) (by decide), h 8 (by decide) (by decide)]; exact hc.2.2.1 k hk
  · rw [h (10 + a) (by omega) (by omega)]; exact hc.2.2.2 a c ha hcc
theorem mD_fr {τ : sf_St} (hm : mD d σ) (h0 : τ 0 0 = σ 0 0 ∧ τ 0 4 = σ 0 4) (h : ∀ c, 1 ≤ c → c < 8 → τ c = σ c) : mD d τ := by
  refine ⟨?_, fun i hi => ?_, fun k hk => ?_⟩
  · rw [h0.1, h0.2]; exact hm.1
  · rw [h 1 (by decide) (by decide), h 2 (by decide) (by decide), h 3 (by decide) (by decide)]; exact hm.2.1 i hi
  · rw [h 4 (by decide) (by decide), h 5 (by decide) (by decide), h 6 (by decide) (by decide), h 7 (by decide) (by decide)]; exact hm.2.2 k hk
/-- the class: an atom's neighbours are laid into around -/
def cA (σ : sf_St) (L : List Nat) : Prop := ∀ i, i < L.length → σ 21 i = nI (L.getD i 0)
theorem sp_senseOfAtom_1 (h : pd_W d) {a : Nat} (ha : a < pd_n d) (hce : pd_ce d a = true) : ∀ m k (σ : sf_St), k + m = pd_n d → cD d σ → cA σ (((List.range (pd_n d)).take k).filter (pd_P d a (pd_n d))) →
    ∃ τ, Rn_R_X4_senseOfAtom 1 σ (nI a) (nI (((List.range (pd_n d)).take k).filter (pd_P d a (pd_n d))).length) (nI k) (iI (pd_cL d a (pd_nl d a (pd_n d)))) τ ∧ ∀ c, c ≠ 21 → τ c = σ c := by
  have h7 := h.1.1
  have h34 := pd_ce_34 h ha hce
  have hle : ∀ k, (((List.range (pd_n d)).take k).filter (pd_P d a (pd_n d))).length ≤ 4 := fun k => by
    have := pd_take_le (pd_P d a (pd_n d)) (List.range (pd_n d)) k
    have h2 : ((List.range (pd_n d)).filter (pd_P d a (pd_n d))).length = (pd_nl d a (pd_n d)).length := rfl
    omega
  intro m
  induction m with
  | zero =>
    intro k σ hk hc hA
    have hk' : k = pd_n d := by omega
    subst hk'
    refine ⟨σ, ?_, fun _ _ => rfl⟩
    have e : ((List.range (pd_n d)).take (pd_n d)).filter (pd_P d a (pd_n d)) = pd_nl d a (pd_n d) := by
      rw [List.take_of_length_le (by simp)]; rfl
    rw [e] at hA ⊢
    have hx : ∀ i, i < pd_n d → (pd_x d i).natAbs ≤ 1000 ∧ (pd_y d i).natAbs ≤ 1000 := fun i hi => by
      have := h.2.1 i hi
      omega
    apply ru_R_X4_senseOfAtom_1
    unfold tr_R_X4_senseOfAtom_1
    rw [hc.1.1, if_pos (nI_le (by omega) (by omega))]
    have hlt : ∀ b ∈ pd_nl d a (pd_n d), b < pd_n d := fun b hb => pd_nl_lt hb
    unfold pd_cL
    generalize pd_nl d a (pd_n d) = L at *
    match L, h34 with
    | [p, q, r], _ =>
      have hp := hlt p (by simp)
      have hq := hlt q (by simp)
      have hr := hlt r (by simp)
      have a0 : σ 21 0 = nI p := hA 0 (by simp)
      have a1 : σ 21 1 = nI q := hA 1 (by simp)
      have a2 : σ 21 2 = nI r := hA 2 (by simp)
      rw [if_neg (show ¬ nI [p, q, r].length = (4 : Int32) from by show ¬ nI 3 = (4 : Int32); decide)]
      refine ⟨_, σ, sp_determinant h hc ha ha hp hq hr a0 a1 a2, ?_⟩
      have z0 : pd_z d a a = 0 := by unfold pd_z; rw [pd_bo_self h]
      have hb := iz_d3 (a := pd_x d p - pd_x d a) (b := pd_y d p - pd_y d a) (c := pd_z d a p - pd_z d a a) (d := pd_x d q - pd_x d a) (e := pd_y d q - pd_y d a) (f := pd_z d a q - pd_z d a a) (g := pd_x d r - pd_x d a) (h := pd_y d r - pd_y d a) (i := pd_z d a r - pd_z d a a) (by have := hx p hp; have := hx a ha; omega) (by have := hx p hp; have := hx a ha; omega) (by have := pd_z_le d a p; omega) (by have := hx q hq; have := hx a ha; omega) (by have := hx q hq; have := hx a ha; omega) (by have := pd_z_le d a q; omega) (by have := hx r hr; have := hx a ha; omega) (by have := hx r hr; have := hx a ha; omega) (by have := pd_z_le d a r; omega)
      refine ⟨_, σ, sp_sign σ hb, ?_, rfl⟩
      rw [z0]
      simp only [Int.sub_zero]
      rfl
    | [p, q, r, s], _ =>
      have hp := hlt p (by simp)
      have hq := hlt q (by simp)
      have hr := hlt r (by simp)
      have hs := hlt s (by simp)
      have a0 : σ 21 0 = nI p := hA 0 (by simp)
      have a1 : σ 21 1 = nI q := hA 1 (by simp)
      have a2 : σ 21 2 = nI r := hA 2 (by simp)
      have a3 : σ 21 (sf_ix (3 : Int32)) = nI s := hA 3 (by simp)
      rw [if_pos (show nI [p, q, r, s].length = (4 : Int32) from by show nI 4 = (4 : Int32); decide), a3]
      refine ⟨_, σ, sp_determinant h hc ha hs hp hq hr a0 a1 a2, ?_⟩
      have hb := iz_d3 (a := pd_x d p - pd_x d s) (b := pd_y d p - pd_y d s) (c := pd_z d a p - pd_z d a s) (d := pd_x d q - pd_x d s) (e := pd_y d q - pd_y d s) (f := pd_z d a q - pd_z d a s) (g := pd_x d r - pd_x d s) (h := pd_y d r - pd_y d s) (i := pd_z d a r - pd_z d a s) (by have := hx p hp; have := hx s hs; omega) (by have := hx p hp; have := hx s hs; omega) (by have := pd_z_le d a p; have := pd_z_le d a s; omega) (by have := hx q hq; have := hx s hs; omega) (by have := hx q hq; have := hx s hs; omega) (by have := pd_z_le d a q; have := pd_z_le d a s; omega) (by have := hx r hr; have := hx s hs; omega) (by have := hx r hr; have := hx s hs; omega) (by have := pd_z_le d a r; have := pd_z_le d a s; omega)
      refine ⟨_, σ, sp_sign σ hb, ?_, rfl⟩
      unfold ps_D
      dsimp only
      have ex : ∀ u v w : Int, u - w - (v - w) = u - v := fun u v w => by omega
      simp only [ex]
    | [], h34 => simp at h34
    | [_], h34 => simp at h34
    | [_, _], h34 => simp at h34
    | _ :: _ :: _ :: _ :: _ :: _, h34 => simp at h34
  | succ m ih =>
    intro k σ hk hc hA
    have hkn : k < pd_n d := by omega
    have hg : (List.range (pd_n d)).getD k 0 = k := by simp [List.getD_eq_getElem?_getD, List.getElem?_range hkn]
    have hs := pd_take_filter (pd_P d a (pd_n d)) (List.range (pd_n d)) (k := k) (by simp; exact hkn)
    rw [hg, pd_P_n hkn] at hs
    have hle1 := hle k
    have hle2 := hle (k + 1)
    have har := sp_areBonded h hc (a := a) (b := k) (by omega) (by omega)
    cases hbo : pd_bo d a k with
    | none =>
      have e1 : pd_lk d a k = 0 := by unfold pd_lk; rw [hbo]
      rw [e1, if_pos rfl] at har
      rw [hbo] at hs
      simp only [Option.isSome_none, Bool.false_eq_true, if_false, List.append_nil] at hs
      obtain ⟨τ, t1, t2⟩ := ih (k + 1) σ (by omega) hc (by rw [hs]; exact hA)
      refine ⟨τ, ?_, t2⟩
      rw [hs] at t1
      apply ru_R_X4_senseOfAtom_1
      unfold tr_R_X4_senseOfAtom_1
      rw [hc.1.1, if_neg (nI_ge (by omega) (by omega))]
      refine ⟨_, σ, har, ?_⟩
      rw [if_pos rfl]
      intro y hy
      rw [sp_inc] at hy
      subst hy
      exact t1
    | some j =>
      have e1 : pd_lk d a k = j + 1 := by unfold pd_lk; rw [hbo]
      rw [e1, if_neg (by omega)] at har
      rw [hbo] at hs
      simp only [Option.isSome_some, if_true] at hs
      generalize hL : ((List.range (pd_n d)).take k).filter (pd_P d a (pd_n d)) = L at *
      rw [hs, List.length_append] at hle2
      simp only [List.length_singleton] at hle2
      obtain ⟨τ, t1, t2⟩ := ih (k + 1) (sf_up σ 21 L.length (nI k)) (by omega) (cD_fr hc (fun c h1 h2 => sf_up_ne σ _ _ (by omega))) (by
        rw [hs]
        intro i hi
        rw [List.length_append, List.length_singleton] at hi
        show (if i = L.length then nI k else σ 21 i) = _
        by_cases hiL : i = L.length
        · subst hiL; rw [if_pos rfl, pd_getD_app_r]
        · rw [if_neg hiL, pd_getD_app_l _ _ (by omega)]; exact hA i (by omega))
      refine ⟨τ, ?_, fun c hc => (t2 c hc).trans (sf_up_ne σ _ _ hc)⟩
      rw [hs, List.length_append, List.length_singleton] at t1
      apply ru_R_X4_senseOfAtom_1
      unfold tr_R_X4_senseOfAtom_1
      rw [hc.1.1, if_neg (nI_ge (by omega) (by omega))]
      refine ⟨_, σ, har, ?_⟩
      rw [if_neg (by decide), if_neg (show ¬ (4 : Int32) ≤ nI L.length from nI_ge (a := L.length) (b := 4) (by omega) (by decide)), sp_ix (by omega)]
      refine ⟨sp_in (by omega) (by decide), ?_⟩
      simp only [forall_eq, sp_inc]
      exact t1
theorem sp_senseOfAtom (h : pd_W d) (hc : cD d σ) {a : Nat} (ha : a < pd_n d) : ∃ τ, R_X4_senseOfAtom σ (nI a) (iI (pd_cs d a)) τ ∧ ∀ c, c ≠ 21 → τ c = σ c := by
  have hce := sp_isCentre h hc ha
  unfold R_X4_senseOfAtom pd_cs
  by_cases hcc : pd_ce d a = true
  · rw [if_pos hcc] at hce ⊢
    obtain ⟨τ, t1, t2⟩ := sp_senseOfAtom_1 h ha hcc (pd_n d) 0 σ (by omega) hc (fun i hi => by simp at hi)
    refine ⟨τ, ?_, t2⟩
    apply ru_R_X4_senseOfAtom_0
    unfold tr_R_X4_senseOfAtom_0
    refine ⟨_, σ, hce, ?_⟩
    rw [if_neg (by decide)]
    exact t1
  · rw [if_neg hcc] at hce ⊢
    refine ⟨σ, ?_, fun _ _ => rfl⟩
    apply ru_R_X4_senseOfAtom_0
    unfold tr_R_X4_senseOfAtom_0
    exact ⟨_, σ, hce, by rw [if_pos rfl]; exact ⟨rfl, rfl⟩⟩
end SN2
