/-! the class's search: place, all of it -/
section CS4
variable {d : pd_D}
def sB (n : Nat) (S : pm_S) : Prop := S.1.length = n ∧ (∀ i, S.1.getD i 0 ≤ pm_OP) ∧ S.2.1 ≤ pm_OP
theorem cQ_fr {S : pm_S} {σ τ : sf_St} (hQ : cQ d S σ) (h27 : τ 27 = σ 27) (h28 : τ 28 = σ 28) (h30 : τ 30 = σ 30) (h31 : τ 31 = σ 31) : cQ d S τ := by
  unfold cQ
  rw [h27, h28, h30, h31]
  exact hQ
theorem sp_place_1 (h : pd_W d) {sa sb sh sr : Nat} {A B : Nat → Int} (za : cz sa) (zb : cz sb) (zh : cz sh) {pre : List Nat} (hok : pm_ok (pd_n d) pre) (hl : pre.length < pd_n d) {low : Nat} (hlow : low ≤ pm_OP) {Rc : sf_St → Int32 → sf_St → Prop} {f : Nat → pm_S → pm_S}
    (hRc : ∀ a S σ, a < pd_n d → a ∉ pre → cW d sa sb sh A B σ → cP d (pre ++ [a]) σ → cQ d S σ → sB (pd_n d) S → ∃ τ, Rc σ (nI (pre.length + 1)) τ ∧ cf σ τ ∧ cP d (pre ++ [a]) τ ∧ cQ d (f a S) τ ∧ sB (pd_n d) (f a S)) :
    ∀ m k S (σ : sf_St), k + m = pd_n d → cW d sa sb sh A B σ → cP d pre σ → cQ d S σ → sB (pd_n d) S →
      ∃ τ, Rn_R_X3_place sa sb sh sr Rc 1 σ (nI pre.length) (nI low) (nI k) τ ∧ cf σ τ ∧ cP d pre τ ∧ cQ d (pm_lp (fun a => !pre.contains a && decide (pd_row d pre a = low)) (pd_al d) f ((List.range (pd_n d)).drop k) S) τ ∧ sB (pd_n d) (pm_lp (fun a => !pre.contains a && decide (pd_row d pre a = low)) (pd_al d) f ((List.range (pd_n d)).drop k) S) := by
  have h7 := h.1.1
  have hop : pm_OP = 2147483647 := rfl
  intro m
  induction m with
  | zero =>
    intro k S σ hk hW hP hQ hS
    have hk' : k = pd_n d := by omega
    subst hk'
    rw [List.drop_of_length_le (by simp)]
    refine ⟨σ, ?_, cf_r σ, hP, hQ, hS⟩
    apply ru_R_X3_place_1
    unfold tr_R_X3_place_1
    rw [hW.1.1.1, if_pos (nI_le (by omega) (by omega))]
  | succ m ih =>
    intro k S σ hk hW hP hQ hS
    have hkn : k < pd_n d := by omega
    have hd : (List.range (pd_n d)).drop k = k :: (List.range (pd_n d)).drop (k + 1) := by
      rw [List.drop_eq_getElem_cons (by simpa using hkn), List.getElem_range]
    rw [hd]
    have hfr := cP_free hok h7 hP hkn
    have hrow := sp_rowOf h hW.1 hok hP hW.2.1 hkn
    have hr := pd_row_lt h (pre := pre) hkn (by omega)
    have lp : ∀ S, pm_lp (fun a => !pre.contains a && decide (pd_row d pre a = low)) (pd_al d) f (k :: (List.range (pd_n d)).drop (k + 1)) S = if (!pre.contains k && decide (pd_row d pre k = low)) = true then (if pd_al d k = true then f k S else pm_lp (fun a => !pre.contains a && decide (pd_row d pre a = low)) (pd_al d) f ((List.range (pd_n d)).drop (k + 1)) (f k S)) else pm_lp (fun a => !pre.contains a && decide (pd_row d pre a = low)) (pd_al d) f ((List.range (pd_n d)).drop (k + 1)) S := fun S => rfl
    rw [lp]
    by_cases hf : pre.contains k = false
    · by_cases hrl : pd_row d pre k = low
      · have hkp : k ∉ pre := fun q => by rw [List.contains_iff_mem.mpr q] at hf; cases hf
        rw [if_pos (by rw [hf, decide_eq_true hrl]; rfl)]
        obtain ⟨σ1, g1, g2, g3⟩ := cP_give h7 hok hP hkn hkp hl
        have f1 : cf σ σ1 := ⟨fun c _ _ _ _ a5 a6 => g3 c a5 a6, fun j _ => by rw [g3 27 (by decide) (by decide)]⟩
        obtain ⟨σ2, r1, r2, r3, r4, r5⟩ := hRc k S σ1 hkn hkp (cW_fr za zb zh hW f1) g2 (cQ_fr hQ (g3 27 (by decide) (by decide)) (g3 28 (by decide) (by decide)) (g3 30 (by decide) (by decide)) (g3 31 (by decide) (by decide))) hS
        obtain ⟨σ3, b1, b2, b3⟩ := cP_back h7 r3 hkn hkp hl
        have f3 : cf σ2 σ3 := ⟨fun c _ _ _ _ a5 a6 => b3 c a5 a6, fun j _ => by rw [b3 27 (by decide) (by decide)]⟩
        have F := cf_t f1 (cf_t r2 f3)
        have hW3 := cW_fr za zb zh hW F
        have hQ3 : cQ d (f k S) σ3 := cQ_fr r4 (b3 27 (by decide) (by decide)) (b3 28 (by decide) (by decide)) (b3 30 (by decide) (by decide)) (b3 31 (by decide) (by decide))
        have hal := sp_isAlone h hW3.1 hkn
        have head : ∀ τ, (if (if pd_al d k = true then (1 : Int32) else 0) = (0 : Int32) then Rn_R_X3_place sa sb sh sr Rc 1 σ3 (nI pre.length) (nI low) (nI (k + 1)) τ else τ = σ3) → Rn_R_X3_place sa sb sh sr Rc 1 σ (nI pre.length) (nI low) (nI k) τ := by
          intro τ ht
          apply ru_R_X3_place_1
          unfold tr_R_X3_place_1
          rw [hW.1.1.1, if_neg (nI_ge (by omega) (by omega)), sp_ix (by omega), if_pos (hfr.mpr hf)]
          refine ⟨sp_in (by omega) (by decide), _, σ, hrow, ?_⟩
          rw [if_pos (by rw [hrl]), sp_inc]
          refine ⟨σ1, g1, σ2, r1, σ3, b1, _, σ3, hal, ?_⟩
          simp only [forall_eq, sp_inc]
          exact ht
        by_cases ha : pd_al d k = true
        · rw [if_pos ha]
          refine ⟨σ3, head σ3 ?_, F, b2, hQ3, r5⟩
          have e : (if pd_al d k = true then (1 : Int32) else 0) = 1 := if_pos ha
          rw [e, if_neg (by decide)]
        · rw [if_neg ha]
          obtain ⟨τ, t1, t2, t3, t4, t5⟩ := ih (k + 1) (f k S) σ3 (by omega) hW3 b2 hQ3 r5
          refine ⟨τ, head τ ?_, cf_t F t2, t3, t4, t5⟩
          have e : (if pd_al d k = true then (1 : Int32) else 0) = 0 := if_neg ha
          rw [e, if_pos rfl]
          exact t1
      · rw [if_neg (by rw [decide_eq_false hrl]; simp)]
        obtain ⟨τ, t1, t2, t3, t4, t5⟩ := ih (k + 1) S σ (by omega) hW hP hQ hS
        refine ⟨τ, ?_, t2, t3, t4, t5⟩
        apply ru_R_X3_place_1
        unfold tr_R_X3_place_1
        rw [hW.1.1.1, if_neg (nI_ge (by omega) (by omega)), sp_ix (by omega), if_pos (hfr.mpr hf)]
        refine ⟨sp_in (by omega) (by decide), _, σ, hrow, ?_⟩
        rw [if_neg (fun q => hrl ((nI_eq (by omega) (by omega)).mp q))]
        intro y hy
        rw [sp_inc] at hy
        subst hy
        exact t1
    · have hf' : pre.contains k = true := by simpa using hf
      rw [if_neg (by rw [hf']; simp)]
      obtain ⟨τ, t1, t2, t3, t4, t5⟩ := ih (k + 1) S σ (by omega) hW hP hQ hS
      refine ⟨τ, ?_, t2, t3, t4, t5⟩
      apply ru_R_X3_place_1
      unfold tr_R_X3_place_1
      rw [hW.1.1.1, if_neg (nI_ge (by omega) (by omega)), sp_ix (by omega), if_neg (fun q => hf (hfr.mp q))]
      refine ⟨sp_in (by omega) (by decide), ?_⟩
      intro y hy
      rw [sp_inc] at hy
      subst hy
      exact t1
end CS4
