/-! the class's search: place is pm_pl -/
section CS5
variable {d : pd_D}
theorem sp_place (h : pd_W d) {sa sb sh sr : Nat} {A B : Nat → Int} (za : cz sa) (zb : cz sb) (zh : cz sh) (hA : ∀ a, p3 (A a)) (hB : ∀ k, p3 (B k)) : ∀ k dep pre S (σ : sf_St), pre.length + k = pd_n d → k < dep → pm_ok (pd_n d) pre → cW d sa sb sh A B σ → cP d pre σ → cQ d S σ → sB (pd_n d) S →
    ∃ τ, R_X3_placeD sa sb sh sr dep σ (nI pre.length) τ ∧ cf σ τ ∧ cP d pre τ ∧ cQ d (pm_pl (pd_n d) (pd_row d) (pd_code d A B) (pd_al d) k pre S) τ ∧ sB (pd_n d) (pm_pl (pd_n d) (pd_row d) (pd_code d A B) (pd_al d) k pre S) := by
  have h7 := h.1.1
  have hop : pm_OP = 2147483647 := rfl
  intro k
  induction k with
  | zero =>
    intro dep pre S σ hk hdep hok hW hP hQ hS
    have hp : pN d pre := ⟨hok, by omega⟩
    obtain ⟨τ, t1, t2, t3, t4⟩ := sp_weigh (sr := sr) h hW.1 hp hP hW.2.2 hA hB hQ hS.2.2
    have e : pm_pl (pd_n d) (pd_row d) (pd_code d A B) (pd_al d) 0 pre S = if pd_code d A B pre < S.2.1 then (S.1, pd_code d A B pre, pre) else S := rfl
    rw [e]
    refine ⟨τ, ?_, ⟨fun c a1 _ a3 a4 _ _ => t2 c a1 a3 a4, t3⟩, ?_, t4, ?_⟩
    · cases dep with
      | zero => omega
      | succ dep =>
        show R_X3_place sa sb sh sr _ σ (nI pre.length) τ
        unfold R_X3_place
        apply ru_R_X3_place_0
        unfold tr_R_X3_place_0
        rw [hW.1.1.1, if_neg (nI_nlt (by omega) (by omega))]
        exact ⟨τ, t1, rfl⟩
    · unfold cP
      rw [t2 33 (by decide) (by decide) (by decide), t2 34 (by decide) (by decide) (by decide)]
      exact hP
    · have hlt := pd_code_lt h hp hA hB
      split
      · exact ⟨hS.1, hS.2.1, by show pd_code d A B pre ≤ pm_OP; omega⟩
      · exact hS
  | succ k ih =>
    intro dep pre S σ hk hdep hok hW hP hQ hS
    have hl : pre.length < pd_n d := by omega
    cases dep with
    | zero => omega
    | succ dep =>
      have hlr := sp_lowestRow h hW.1 hok hP hW.2.1
      have hmin := (pm_min_le (pd_row d pre) ((List.range (pd_n d)).filter (fun a => !pre.contains a)) pm_OP).1
      have hlow : pm_low (pd_n d) (pd_row d) pre ≤ pm_OP := hmin
      have e : pm_pl (pd_n d) (pd_row d) (pd_code d A B) (pd_al d) (k + 1) pre S = if S.1.getD pre.length 0 < pm_low (pd_n d) (pd_row d) pre then S else pm_lp (fun a => !pre.contains a && decide (pd_row d pre a = pm_low (pd_n d) (pd_row d) pre)) (pd_al d) (fun a T => pm_pl (pd_n d) (pd_row d) (pd_code d A B) (pd_al d) k (pre ++ [a]) T) (List.range (pd_n d)) (if pm_low (pd_n d) (pd_row d) pre < S.1.getD pre.length 0 then (S.1.take pre.length ++ pm_low (pd_n d) (pd_row d) pre :: List.replicate k pm_OP, pm_OP, S.2.2) else S) := rfl
      rw [e]
      have loop := sp_place_1 (sr := sr) h za zb zh hok hl hlow (Rc := R_X3_placeD sa sb sh sr dep) (f := fun a T => pm_pl (pd_n d) (pd_row d) (pd_code d A B) (pd_al d) k (pre ++ [a]) T) (A := A) (B := B)
        (fun a T s ha hn w1 w2 w3 w4 => by
          have := ih dep (pre ++ [a]) T s (by rw [List.length_append, List.length_singleton]; omega) (by omega) (pm_ok_snoc hok ha hn) w1 w2 w3 w4
          rw [List.length_append, List.length_singleton] at this
          exact this) (pd_n d) 0
      rw [List.drop_zero] at loop
      generalize pm_low (pd_n d) (pd_row d) pre = low at *
      have hb := hS.2.1 pre.length
      have h28 := hQ.1 pre.length hl
      have ii : vp_in (nI pre.length) 7 := sp_in (by omega) (by decide)
      have open0 : ∀ τ, (if nI low ≤ σ 28 pre.length then (vp_in (nI pre.length) 7 ∧ (if σ 28 pre.length ≤ nI low then Rn_R_X3_place sa sb sh sr (R_X3_placeD sa sb sh sr dep) 1 σ (nI pre.length) (nI low) 0 τ else (∃ τ10 : sf_St, R_X3_lower σ (nI pre.length) (nI low) τ10 ∧ Rn_R_X3_place sa sb sh sr (R_X3_placeD sa sb sh sr dep) 1 τ10 (nI pre.length) (nI low) 0 τ))) else τ = σ) → R_X3_placeD sa sb sh sr (dep + 1) σ (nI pre.length) τ := by
        intro τ ht
        show R_X3_place sa sb sh sr (R_X3_placeD sa sb sh sr dep) σ (nI pre.length) τ
        unfold R_X3_place
        apply ru_R_X3_place_0
        unfold tr_R_X3_place_0
        rw [hW.1.1.1, if_pos (nI_lt hl (by omega))]
        refine ⟨_, σ, hlr, ii, ?_⟩
        rw [sp_ix (by omega)]
        exact ht
      rw [h28] at open0
      by_cases c1 : S.1.getD pre.length 0 < low
      · rw [if_pos c1]
        refine ⟨σ, open0 σ ?_, cf_r σ, hP, hQ, hS⟩
        rw [if_neg (nI_ge c1 (by omega))]
      · rw [if_neg c1]
        by_cases c2 : low < S.1.getD pre.length 0
        · rw [if_pos c2]
          obtain ⟨σ1, l1, l2, l3, l4, l5⟩ := sp_lower (σ := σ) (i := pre.length) (by omega) (nI low)
          have f1 : cf σ σ1 := ⟨fun c a1 a2 _ _ _ _ => l2 c a1 a2, l3⟩
          have hP1 : cP d pre σ1 := by
            unfold cP
            rw [l2 33 (by decide) (by decide), l2 34 (by decide) (by decide)]
            exact hP
          have hlen : (S.1.take pre.length).length = pre.length := by rw [List.length_take, hS.1]; omega
          have hget : ∀ i, i < pd_n d → (S.1.take pre.length ++ low :: List.replicate k pm_OP).getD i 0 = if i < pre.length then S.1.getD i 0 else if i = pre.length then low else pm_OP := by
            intro i hi
            rw [List.getD_eq_getElem?_getD]
            by_cases q1 : i < pre.length
            · rw [if_pos q1, List.getElem?_append_left (by rw [hlen]; exact q1), ← List.getD_eq_getElem?_getD, pk_take _ q1]
            · rw [if_neg q1, List.getElem?_append_right (by rw [hlen]; omega), hlen]
              by_cases q2 : i = pre.length
              · subst q2; rw [if_pos rfl, Nat.sub_self]; rfl
              · rw [if_neg q2]
                have : i - pre.length = (i - pre.length - 1) + 1 := by omega
                rw [this, List.getElem?_cons_succ, List.getElem?_replicate, if_pos (by omega)]
                rfl
          have hlen2 : (S.1.take pre.length ++ low :: List.replicate k pm_OP).length = pd_n d := by
            rw [List.length_append, hlen, List.length_cons, List.length_replicate]; omega
          obtain ⟨τ, t1, t2, t3, t4, t5⟩ := loop (S.1.take pre.length ++ low :: List.replicate k pm_OP, pm_OP, S.2.2) σ1 (by omega) (cW_fr za zb zh hW f1) hP1 ⟨fun i hi => by
              rw [l5 i (by omega), hget i hi]
              by_cases q1 : i < pre.length
              · rw [if_pos q1, if_pos q1]; exact hQ.1 i hi
              · rw [if_neg q1, if_neg q1]
                by_cases q2 : i = pre.length
                · rw [if_pos q2, if_pos q2]
                · rw [if_neg q2, if_neg q2], l4, fun q => absurd q (Nat.lt_irrefl _)⟩ ⟨hlen2, fun i => by
              by_cases hi : i < pd_n d
              · show (S.1.take pre.length ++ low :: List.replicate k pm_OP).getD i 0 ≤ pm_OP
                rw [hget i hi]
                have := hS.2.1 i
                split
                · exact this
                · split
                  · exact hlow
                  · exact Nat.le_refl _
              · show (S.1.take pre.length ++ low :: List.replicate k pm_OP).getD i 0 ≤ pm_OP
                rw [List.getD_eq_getElem?_getD, List.getElem?_eq_none (by rw [hlen2]; omega)]
                exact Nat.zero_le _, Nat.le_refl _⟩
          refine ⟨τ, open0 τ ?_, cf_t f1 t2, t3, t4, t5⟩
          rw [if_pos (nI_le (by omega) (by omega)), if_neg (nI_ge c2 (by omega))]
          exact ⟨ii, σ1, l1, t1⟩
        · rw [if_neg c2]
          obtain ⟨τ, t1, t2, t3, t4, t5⟩ := loop S σ (by omega) hW hP hQ hS
          refine ⟨τ, open0 τ ?_, t2, t3, t4, t5⟩
          rw [if_pos (nI_le (by omega) (by omega)), if_pos (nI_le (by omega) (by omega))]
          exact ⟨ii, t1⟩
end CS5
