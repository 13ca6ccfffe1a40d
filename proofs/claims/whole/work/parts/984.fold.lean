/-! the class's search finds what the reference's list has -/
section FO
variable {d : pd_D}
theorem pd_hd_al (h : pd_W d) {pre : List Nat} {a b : Nat} (ha : a < pd_n d) (hb : b < pd_n d) (hl : pre.length ≤ 7) (he : pd_row d pre b = pd_row d pre a) : pd_hd d b = pd_hd d a ∧ pd_e d b = pd_e d a ∧ pd_lf d b = pd_lf d a := by
  have q : ∀ x, pd_sum (fun j => pd_or d x (pre.getD j 0) * 4 ^ j) pre.length < 16384 := fun x => by
    have h4 := pd_sum4 h x (fun j => pre.getD j 0) pre.length
    have h5 : 4 ^ pre.length ≤ 4 ^ 7 := Nat.pow_le_pow_right (by decide) hl
    have h6 : (4 : Nat) ^ 7 = 16384 := by decide
    omega
  have qa := q a
  have qb := q b
  have va := pd_v_le (pd_e d a)
  have vb := pd_v_le (pd_e d b)
  have la : pd_lf d a ≤ 4 := by unfold pd_lf; omega
  have lb : pd_lf d b ≤ 4 := by unfold pd_lf; omega
  unfold pd_row pd_hd at he
  unfold pd_hd
  omega
theorem pd_hal (h : pd_W d) {A B : Nat → Int} (hA : ∀ a, a < pd_n d → pd_al d a = true → A a = 0) : ∀ k pre a b, pre.length + (k + 1) = pd_n d → pm_ok (pd_n d) (pre ++ [a]) → pm_ok (pd_n d) (pre ++ [b]) → pd_al d a = true → pd_row d pre b = pd_row d pre a → ∀ π ∈ pm_ext (pd_n d) k (pre ++ [b]), ∃ π' ∈ pm_ext (pd_n d) k (pre ++ [a]), pm_rows (pd_row d) [] π' = pm_rows (pd_row d) [] π ∧ pd_code d A B π' = pd_code d A B π := by
  intro k pre a b hk oka okb hal hrow π hπ
  have h7 := h.1.1
  have ha : a < pd_n d := oka.2 a (by simp)
  have hb : b < pd_n d := okb.2 b (by simp)
  obtain ⟨e1, e2, e3⟩ := pd_hd_al h ha hb (by omega) hrow
  have halb : pd_al d b = true := by
    unfold pd_al at hal ⊢
    rw [e2, e3]
    exact hal
  have na := pd_al_no h ha hal
  have nb := pd_al_no h hb halb
  obtain ⟨suf, rfl, l1, ok1⟩ := pm_ext_mem _ _ _ _ hπ
  have okπ := ok1 okb
  have hap : a ∉ pre := fun q => by
    have := oka.1
    rw [List.nodup_append] at this
    exact this.2.2 a q a (by simp) rfl
  have hbp : b ∉ pre := fun q => by
    have := okb.1
    rw [List.nodup_append] at this
    exact this.2.2 b q b (by simp) rfl
  have emap : (pre ++ [b] ++ suf).map (sw a b) = pre ++ [a] ++ suf.map (sw a b) := by
    rw [List.map_append, List.map_append]
    congr 1
    congr 1
    · have : pre.map (sw a b) = pre.map id := List.map_congr_left (fun x hx => sw_id (fun q => hap (q ▸ hx)) (fun q => hbp (q ▸ hx)))
      rw [this, List.map_id]
    · show [sw a b b] = [a]
      unfold sw
      by_cases q : b = a
      · rw [if_pos q, q]
      · rw [if_neg q, if_pos rfl]
  have okm : pm_ok (pd_n d) ((pre ++ [b] ++ suf).map (sw a b)) := by
    refine ⟨?_, fun x hx => ?_⟩
    · have := okπ.1
      unfold List.Nodup at this ⊢
      rw [List.pairwise_map]
      exact this.imp (fun hne q => hne (sw_inj a b q))
    · obtain ⟨y, hy, rfl⟩ := List.mem_map.mp hx
      have := okπ.2 y hy
      unfold sw
      split
      · exact hb
      · split
        · exact ha
        · exact this
  rw [emap] at okm
  have hmem := pm_ext_mem' (pd_n d) (suf.map (sw a b)) (pre ++ [a]) okm
  rw [List.length_map, l1] at hmem
  refine ⟨_, hmem, ?_, ?_⟩
  · rw [← emap]
    exact pm_rows_map (fun p x => sw_row na nb e1.symm p x) (pre ++ [b] ++ suf) []
  · rw [← emap]
    exact sw_code na nb (hA a ha hal) (hA b hb halb) _
end FO
