/-! senses of hinges: the class -/
section SN4
variable {d : pd_D} {σ : sf_St}
theorem pd_sd_bd (h : pd_W d) {a b p : Nat} (ha : a < pd_n d) (hb : b < pd_n d) (hp : p < pd_n d) : ((pd_x d b - pd_x d a) * (pd_y d p - pd_y d a) - (pd_y d b - pd_y d a) * (pd_x d p - pd_x d a)).natAbs < 2 ^ 31 := by
  have hx : ∀ i, i < pd_n d → (pd_x d i).natAbs ≤ 1000 ∧ (pd_y d i).natAbs ≤ 1000 := fun i hi => by
    have := h.2.1 i hi
    omega
  have q1 := iz_mul (iz_s (hx b hb).1 (hx a ha).1) (iz_s (hx p hp).2 (hx a ha).2)
  have q2 := iz_mul (iz_s (hx b hb).2 (hx a ha).2) (iz_s (hx p hp).1 (hx a ha).1)
  clear hx
  omega
theorem sp_side (h : pd_W d) (hc : cD d σ) {a b p : Nat} (ha : a < pd_n d) (hb : b < pd_n d) (hp : p < pd_n d) : R_X0_side σ (nI a) (nI b) (nI p) (iI (pd_sd d a b p)) σ := by
  have h7 := h.1.1
  have ia : vp_in (nI a) 7 := sp_in (by omega) (by decide)
  have ib : vp_in (nI b) 7 := sp_in (by omega) (by decide)
  have ip : vp_in (nI p) 7 := sp_in (by omega) (by decide)
  unfold R_X0_side
  refine ⟨ib, ia, ip, ia, ib, ia, ip, ia, _, σ, ?_, rfl, rfl⟩
  rw [sp_ix (by omega), sp_ix (by omega), sp_ix (by omega), (hc.2.1 a ha).2.1, (hc.2.1 a ha).2.2, (hc.2.1 b hb).2.1, (hc.2.1 b hb).2.2, (hc.2.1 p hp).2.1, (hc.2.1 p hp).2.2]
  change R_X6_sign σ ((iI (pd_x d b) - iI (pd_x d a)) * (iI (pd_y d p) - iI (pd_y d a)) - (iI (pd_y d b) - iI (pd_y d a)) * (iI (pd_x d p) - iI (pd_x d a))) _ σ
  simp only [iI_sub, iI_mul]
  exact sp_sign σ (pd_sd_bd h ha hb hp)
theorem sp_mSide (h : pd_W d) (hm : mD d σ) {a b p : Nat} (ha : a < pd_n d) (hb : b < pd_n d) (hp : p < pd_n d) : R_X7_side σ (nI a) (nI b) (nI p) (iI (pd_sd d a b p)) σ := by
  have h7 := h.1.1
  have ia : vp_in (nI a) 7 := sp_in (by omega) (by decide)
  have ib : vp_in (nI b) 7 := sp_in (by omega) (by decide)
  have ip : vp_in (nI p) 7 := sp_in (by omega) (by decide)
  unfold R_X7_side
  refine ⟨ib, ia, ip, ia, ib, ia, ip, ia, _, σ, ?_, rfl, rfl⟩
  rw [sp_ix (by omega), sp_ix (by omega), sp_ix (by omega), (hm.2.1 a ha).2.1, (hm.2.1 a ha).2.2, (hm.2.1 b hb).2.1, (hm.2.1 b hb).2.2, (hm.2.1 p hp).2.1, (hm.2.1 p hp).2.2]
  change R_X7_sign σ ((iI (pd_x d b) - iI (pd_x d a)) * (iI (pd_y d p) - iI (pd_y d a)) - (iI (pd_y d b) - iI (pd_y d a)) * (iI (pd_x d p) - iI (pd_x d a))) _ σ
  simp only [iI_sub, iI_mul]
  exact sp_mSign σ (pd_sd_bd h ha hb hp)
theorem pd_sd_3 (d : pd_D) (a b p : Nat) : pd_sd d a b p = -1 ∨ pd_sd d a b p = 0 ∨ pd_sd d a b p = 1 := by
  unfold pd_sd
  generalize (pd_x d b - pd_x d a) * (pd_y d p - pd_y d a) - (pd_y d b - pd_y d a) * (pd_x d p - pd_x d a) = z
  rcases Int.lt_trichotomy z 0 with h | h | h
  · exact Or.inl (Int.sign_eq_neg_one_of_neg h)
  · exact Or.inr (Or.inl (by rw [h]; rfl))
  · exact Or.inr (Or.inr (Int.sign_eq_one_of_pos h))
theorem pd_sd_abs (d : pd_D) (a b p : Nat) : (pd_sd d a b p).natAbs < 2 ^ 31 := by
  rcases pd_sd_3 d a b p with h | h | h <;> rw [h] <;> decide
/-- so far every side is told, and the second is not the first -/
def pd_go (d : pd_D) (a b : Nat) (L : List Nat) : Prop := match L with
  | [] => True
  | [p] => pd_sd d a b p ≠ 0
  | [p, q] => pd_sd d a b p ≠ 0 ∧ pd_sd d a b q ≠ 0 ∧ pd_sd d a b p ≠ pd_sd d a b q
  | _ => False
def pd_fi (d : pd_D) (a b : Nat) (L : List Nat) : Int := match L with
  | [] => 0
  | p :: _ => pd_sd d a b p
theorem sp_sideOfEnd_1 (h : pd_W d) {a b e o : Nat} (ha : a < pd_n d) (hb : b < pd_n d) (hab : a ≠ b) (heo : (e = a ∧ o = b) ∨ (e = b ∧ o = a)) (h2 : (pd_nl d e o).length ≤ 2) (hc : cD d σ) : ∀ m k, k + m = pd_n d → pd_go d a b (((List.range (pd_n d)).take k).filter (pd_P d e o)) →
    Rn_R_X4_sideOfEnd 1 σ (nI a) (nI b) (nI e) (iI (pd_fi d a b (((List.range (pd_n d)).take k).filter (pd_P d e o)))) (nI k) (iI (pd_en d a b (pd_nl d e o))) σ := by
  have h7 := h.1.1
  have hle : ∀ k, (((List.range (pd_n d)).take k).filter (pd_P d e o)).length ≤ 2 := fun k => Nat.le_trans (pd_take_le _ _ k) h2
  intro m
  induction m with
  | zero =>
    intro k hk hg
    have hk' : k = pd_n d := by omega
    subst hk'
    have e1 : ((List.range (pd_n d)).take (pd_n d)).filter (pd_P d e o) = pd_nl d e o := by
      rw [List.take_of_length_le (by simp)]; rfl
    rw [e1] at hg ⊢
    apply ru_R_X4_sideOfEnd_1
    unfold tr_R_X4_sideOfEnd_1
    rw [hc.1.1, if_pos (nI_le (by omega) (by omega))]
    refine ⟨?_, rfl⟩
    generalize pd_nl d e o = L at *
    match L, hg with
    | [], _ => rfl
    | [p], _ => rfl
    | [p, q], hg =>
      show iI (if _ then 0 else _) = _
      rw [if_neg]
      · rfl
      · rintro (q1 | q1 | q1)
        · exact hg.1 q1
        · exact hg.2.1 q1
        · exact hg.2.2 q1
  | succ m ih =>
    intro k hk hg
    have hkn : k < pd_n d := by omega
    have hgd : (List.range (pd_n d)).getD k 0 = k := by simp [List.getD_eq_getElem?_getD, List.getElem?_range hkn]
    have hs := pd_take_filter (pd_P d e o) (List.range (pd_n d)) (k := k) (by simp; exact hkn)
    rw [hgd] at hs
    have ih' := ih (k + 1) (by omega)
    apply ru_R_X4_sideOfEnd_1
    unfold tr_R_X4_sideOfEnd_1
    rw [hc.1.1, if_neg (nI_ge (by omega) (by omega))]
    have eka : (nI k = nI a) ↔ k = a := nI_eq (by omega) (by omega)
    have ekb : (nI k = nI b) ↔ k = b := nI_eq (by omega) (by omega)
    by_cases hP : pd_P d e o k = true
    · have hP' := hP
      unfold pd_P at hP'
      simp only [Bool.and_eq_true, Option.isSome_iff_exists, Bool.not_eq_true', beq_eq_false_iff_ne] at hP'
      obtain ⟨⟨j, hj⟩, hko⟩ := hP'
      have hke : k ≠ e := fun q => by
        rw [q, pd_bo_self h] at hj
        cases hj
      rw [if_neg (fun q => by have := eka.mp q; omega), if_neg (fun q => by have := ekb.mp q; omega)]
      have har := sp_areBonded h hc (a := e) (b := k) (by omega) (by omega)
      have e1 : pd_lk d e k = j + 1 := by unfold pd_lk; rw [hj]
      rw [e1, if_neg (by omega)] at har
      refine ⟨_, σ, har, ?_⟩
      rw [if_neg (by decide)]
      refine ⟨_, σ, sp_side h hc ha hb hkn, ?_⟩
      rw [if_pos hP] at hs
      rw [hs] at ih'
      have hall : pd_nl d e o = ((List.range (pd_n d)).take k).filter (pd_P d e o) ++ [k] ++ ((List.range (pd_n d)).drop (k + 1)).filter (pd_P d e o) := by
        rw [← hs, ← List.filter_append, List.take_append_drop]; rfl
      generalize ((List.range (pd_n d)).drop (k + 1)).filter (pd_P d e o) = R at hall
      have hl2 := hle (k + 1)
      rw [hs] at hl2
      generalize ((List.range (pd_n d)).take k).filter (pd_P d e o) = L at *
      rw [iI_0]
      have s0 : (iI (pd_sd d a b k) = iI 0) ↔ pd_sd d a b k = 0 := iI_eq (pd_sd_abs d a b k) (by decide)
      match L, hg with
      | [], _ =>
        by_cases hz : pd_sd d a b k = 0
        · rw [if_pos (s0.mpr hz)]
          refine ⟨?_, rfl⟩
          rw [hall]
          rw [hall] at h2
          match R, h2 with
          | [], _ => show iI (pd_sd d a b k) = _; rw [hz]
          | [q], _ => show iI (if _ then 0 else _) = _; rw [if_pos (Or.inl hz)]
          | _ :: _ :: _, h2 => simp at h2
        · have hf : pd_fi d a b [] = 0 := rfl
          rw [if_neg (fun q => hz (s0.mp q)), hf, if_neg (fun q => hz (s0.mp q)), if_pos rfl]
          intro y hy
          rw [sp_inc] at hy
          subst hy
          exact ih' hz
      | [p], hg =>
        have hf : pd_fi d a b [p] = pd_sd d a b p := rfl
        have hf2 : pd_fi d a b ([p] ++ [k]) = pd_sd d a b p := rfl
        have s1 : (iI (pd_sd d a b k) = iI (pd_sd d a b p)) ↔ pd_sd d a b k = pd_sd d a b p := iI_eq (pd_sd_abs d a b k) (pd_sd_abs d a b p)
        have s2 : (iI (pd_sd d a b p) = iI 0) ↔ pd_sd d a b p = 0 := iI_eq (pd_sd_abs d a b p) (by decide)
        have hR : R = [] := by
          rw [hall] at h2
          match R, h2 with
          | [], _ => rfl
          | _ :: _, h2 => simp at h2
        subst hR
        rw [hf]
        by_cases hz : pd_sd d a b k = 0
        · rw [if_pos (s0.mpr hz)]
          refine ⟨?_, rfl⟩
          rw [hall]
          show iI (if _ then 0 else _) = _
          rw [if_pos (Or.inr (Or.inl hz))]
        · rw [if_neg (fun q => hz (s0.mp q))]
          by_cases hq : pd_sd d a b k = pd_sd d a b p
          · rw [if_pos (s1.mpr hq)]
            refine ⟨?_, rfl⟩
            rw [hall]
            show iI (if _ then 0 else _) = _
            rw [if_pos (Or.inr (Or.inr hq.symm))]
          · rw [if_neg (fun q => hq (s1.mp q)), if_neg (fun q => hg (s2.mp q))]
            intro y hy
            rw [sp_inc] at hy
            subst hy
            exact ih' ⟨hg, hz, fun q => hq q.symm⟩
      | _ :: _ :: _, _ => simp at hl2
    · rw [if_neg hP, List.append_nil] at hs
      rw [hs] at ih'
      have hgo : Rn_R_X4_sideOfEnd 1 σ (nI a) (nI b) (nI e) (iI (pd_fi d a b (((List.range (pd_n d)).take k).filter (pd_P d e o)))) (nI (k + 1)) (iI (pd_en d a b (pd_nl d e o))) σ := ih' hg
      by_cases hka : k = a
      · rw [if_pos (eka.mpr hka)]
        intro y hy
        rw [sp_inc] at hy
        subst hy
        exact hgo
      · rw [if_neg (fun q => hka (eka.mp q))]
        by_cases hkb : k = b
        · rw [if_pos (ekb.mpr hkb)]
          intro y hy
          rw [sp_inc] at hy
          subst hy
          exact hgo
        · rw [if_neg (fun q => hkb (ekb.mp q))]
          have hno : pd_bo d e k = none := by
            cases hj : pd_bo d e k with
            | none => rfl
            | some j =>
              exfalso
              apply hP
              unfold pd_P
              rw [hj]
              simp
              omega
          have har := sp_areBonded h hc (a := e) (b := k) (by omega) (by omega)
          have e1 : pd_lk d e k = 0 := by unfold pd_lk; rw [hno]
          rw [e1, if_pos rfl] at har
          refine ⟨_, σ, har, ?_⟩
          rw [if_pos rfl]
          intro y hy
          rw [sp_inc] at hy
          subst hy
          exact hgo
theorem sp_sideOfEnd (h : pd_W d) {a b e o : Nat} (ha : a < pd_n d) (hb : b < pd_n d) (hab : a ≠ b) (heo : (e = a ∧ o = b) ∨ (e = b ∧ o = a)) (h2 : (pd_nl d e o).length ≤ 2) (hc : cD d σ) : R_X4_sideOfEnd σ (nI a) (nI b) (nI e) (iI (pd_en d a b (pd_nl d e o))) σ := by
  unfold R_X4_sideOfEnd
  apply ru_R_X4_sideOfEnd_0
  unfold tr_R_X4_sideOfEnd_0
  exact sp_sideOfEnd_1 h ha hb hab heo h2 hc (pd_n d) 0 (by omega) trivial
theorem pd_hi_len (h : pd_W d) {k : Nat} (hk : k < pd_b d) (hh : pd_hi d k = true) : (1 ≤ (pd_nl d (pd_f d k) (pd_s d k)).length ∧ (pd_nl d (pd_f d k) (pd_s d k)).length ≤ 2) ∧ (1 ≤ (pd_nl d (pd_s d k) (pd_f d k)).length ∧ (pd_nl d (pd_s d k) (pd_f d k)).length ≤ 2) := by
  have j1 : pd_j d k (pd_f d k) (pd_s d k) = true := by simp [pd_j]
  have j2 : pd_j d k (pd_s d k) (pd_f d k) = true := by simp [pd_j]
  rw [pd_nl_len h (pd_xe_end h hk j1), pd_nl_len h (pd_xe_end h hk j2)]
  unfold pd_hi pd_he at hh
  simp only [Bool.and_eq_true, beq_iff_eq, decide_eq_true_eq] at hh
  obtain ⟨⟨-, ⟨⟨-, g1⟩, g2⟩⟩, ⟨-, g3⟩, g4⟩ := hh
  exact ⟨⟨g1, g2⟩, g3, g4⟩
theorem sp_senseOfBond (h : pd_W d) (hc : cD d σ) {k : Nat} (hk : k < pd_b d) : R_X4_senseOfBond σ (nI k) (iI (pd_hs d k)) σ := by
  have h9 := h.1.2
  have h7 := h.1.1
  obtain ⟨w1, w2, w3, w4, w5, w6⟩ := h.2.2.1 k hk
  obtain ⟨q1, q2, q3, q4⟩ := hc.2.2.1 k hk
  have ik : vp_in (nI k) 9 := sp_in (by omega) (by decide)
  have hhi := sp_isHinge h hc hk
  unfold R_X4_senseOfBond pd_hs
  by_cases hh : pd_hi d k = true
  · rw [if_pos hh] at hhi
    refine ⟨1, σ, hhi, ?_⟩
    rw [if_neg (by decide), if_pos hh, sp_ix (by omega), q1, q2]
    have emin : (if nI (pd_s d k) < nI (pd_f d k) then nI (pd_s d k) else nI (pd_f d k)) = nI (min (pd_f d k) (pd_s d k)) := by
      by_cases hlt : pd_s d k < pd_f d k
      · rw [if_pos (nI_lt hlt (by omega)), Nat.min_eq_right (by omega)]
      · rw [if_neg (nI_nlt (by omega) (by omega)), Nat.min_eq_left (by omega)]
    have emax : (if nI (pd_f d k) < nI (pd_s d k) then nI (pd_s d k) else nI (pd_f d k)) = nI (max (pd_f d k) (pd_s d k)) := by
      by_cases hlt : pd_f d k < pd_s d k
      · rw [if_pos (nI_lt hlt (by omega)), Nat.max_eq_right (by omega)]
      · rw [if_neg (nI_nlt (by omega) (by omega)), Nat.max_eq_left (by omega)]
    simp only [forall_eq, emin, emax]
    obtain ⟨⟨-, l1⟩, -, l2⟩ := pd_hi_len h hk hh
    have l3 : (pd_nl d (min (pd_f d k) (pd_s d k)) (max (pd_f d k) (pd_s d k))).length ≤ 2 ∧ (pd_nl d (max (pd_f d k) (pd_s d k)) (min (pd_f d k) (pd_s d k))).length ≤ 2 := by
      by_cases hlt : pd_f d k < pd_s d k
      · rw [Nat.max_eq_right (by omega), Nat.min_eq_left (by omega)]; exact ⟨l1, l2⟩
      · rw [Nat.max_eq_left (by omega), Nat.min_eq_right (by omega)]; exact ⟨l2, l1⟩
    refine ⟨ik, ik, ik, ik, _, σ, sp_sideOfEnd h (by omega) (by omega) (by omega) (Or.inl ⟨rfl, rfl⟩) l3.1 hc, _, σ, sp_sideOfEnd h (by omega) (by omega) (by omega) (Or.inr ⟨rfl, rfl⟩) l3.2 hc, ?_, rfl⟩
    rw [iI_mul]
  · rw [if_neg hh] at hhi
    exact ⟨0, σ, hhi, by rw [if_pos rfl, if_neg hh]; exact ⟨rfl, rfl⟩⟩
end SN4
