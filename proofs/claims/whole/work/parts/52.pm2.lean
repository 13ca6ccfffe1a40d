def pm_ok (n : Nat) (pre : List Nat) : Prop := pre.Nodup ∧ ∀ a ∈ pre, a < n
theorem pm_ok_snoc {n : Nat} {pre : List Nat} {a : Nat} (h : pm_ok n pre) (ha : a < n) (hn : a ∉ pre) : pm_ok n (pre ++ [a]) := by
  refine ⟨?_, ?_⟩
  · rw [List.nodup_append]
    refine ⟨h.1, by simp, ?_⟩
    intro x hx y hy e
    have : y = a := by simpa using hy
    subst this
    subst e
    exact hn hx
  · intro x hx
    rcases List.mem_append.mp hx with hx | hx
    · exact h.2 x hx
    · have : x = a := by simpa using hx
      subst this
      exact ha
theorem pm_ok_left {n : Nat} {pre suf : List Nat} (h : pm_ok n (pre ++ suf)) : pm_ok n pre :=
  ⟨(List.nodup_append.mp h.1).1, fun a ha => h.2 a (List.mem_append_left _ ha)⟩
theorem pm_good {n : Nat} {pre : List Nat} {a : Nat} (h : a ∈ (List.range n).filter (fun a => !pre.contains a)) : a < n ∧ a ∉ pre := by
  obtain ⟨h1, h2⟩ := List.mem_filter.mp h
  exact ⟨List.mem_range.mp h1, by simpa using h2⟩
theorem pm_ext_mem (n : Nat) : ∀ (k : Nat) (pre π : List Nat), π ∈ pm_ext n k pre → ∃ suf, π = pre ++ suf ∧ suf.length = k ∧ (pm_ok n pre → pm_ok n π) := by
  intro k
  induction k with
  | zero =>
    intro pre π h
    have : π = pre := by simpa [pm_ext] using h
    subst this
    exact ⟨[], by simp, rfl, id⟩
  | succ k ih =>
    intro pre π h
    obtain ⟨a, ha, hp⟩ := List.mem_flatMap.mp h
    obtain ⟨suf, h1, h2, h3⟩ := ih _ _ hp
    obtain ⟨g1, g2⟩ := pm_good ha
    exact ⟨a :: suf, by rw [h1]; simp, by simp [h2], fun ho => h3 (pm_ok_snoc ho g1 g2)⟩
theorem pm_ext_mem' (n : Nat) : ∀ (suf pre : List Nat), pm_ok n (pre ++ suf) → pre ++ suf ∈ pm_ext n suf.length pre := by
  intro suf
  induction suf with
  | nil => intro pre _; simp [pm_ext]
  | cons a suf ih =>
    intro pre h
    have h' : pm_ok n ((pre ++ [a]) ++ suf) := by simpa using h
    have := ih (pre ++ [a]) h'
    show _ ∈ pm_ext n (suf.length + 1) pre
    refine List.mem_flatMap.mpr ⟨a, List.mem_filter.mpr ⟨List.mem_range.mpr (h.2 a (by simp)), ?_⟩, by simpa using this⟩
    have hd := (List.nodup_append.mp h.1).2.2
    have : a ∉ pre := fun ha => hd a ha a (by simp) rfl
    simpa using this
theorem pm_subset_len : ∀ (l m : List Nat), l.Nodup → (∀ a ∈ l, a ∈ m) → l.length ≤ m.length := by
  intro l
  induction l with
  | nil => intro m _ _; simp
  | cons a l ih =>
    intro m hn hs
    have ha : a ∈ m := hs a (by simp)
    have hn' := List.nodup_cons.mp hn
    have := ih (m.erase a) hn'.2 (fun x hx => by
      have hxa : x ≠ a := fun e => hn'.1 (e ▸ hx)
      exact (List.mem_erase_of_ne hxa).mpr (hs x (List.mem_cons_of_mem _ hx)))
    rw [List.length_erase_of_mem ha] at this
    have hm : 0 < m.length := List.length_pos_of_mem ha
    simp only [List.length_cons]
    omega
theorem pm_free {n : Nat} {pre : List Nat} (hl : pre.length < n) : ∃ a, a < n ∧ a ∉ pre := by
  apply Classical.byContradiction
  intro h
  have hs : ∀ a ∈ List.range n, a ∈ pre := by
    intro a ha
    apply Classical.byContradiction
    intro hp
    exact h ⟨a, List.mem_range.mp ha, hp⟩
  have := pm_subset_len (List.range n) pre List.nodup_range hs
  rw [List.length_range] at this
  omega
theorem pm_ext_ne (n : Nat) : ∀ (k : Nat) (pre : List Nat), pre.length + k = n → pm_ext n k pre ≠ [] := by
  intro k
  induction k with
  | zero => intro pre _; simp [pm_ext]
  | succ k ih =>
    intro pre h
    obtain ⟨a, ha, hp⟩ := pm_free (n := n) (pre := pre) (by omega)
    have hne := ih (pre ++ [a]) (by simp; omega)
    intro e
    obtain ⟨π, hπ⟩ := List.exists_mem_of_ne_nil _ hne
    have : π ∈ pm_ext n (k + 1) pre := List.mem_flatMap.mpr ⟨a, List.mem_filter.mpr ⟨List.mem_range.mpr ha, by simpa using hp⟩, hπ⟩
    rw [e] at this
    cases this
theorem pm_fm {α β γ : Type} (f : γ → β → γ) (g : α → List β) : ∀ (l : List α) (S : γ), (l.flatMap g).foldl f S = l.foldl (fun S a => (g a).foldl f S) S := by
  intro l
  induction l with
  | nil => intro S; rfl
  | cons a l ih => intro S; rw [List.flatMap_cons, List.foldl_append, ih]; rfl
def pm_low (n : Nat) (row : List Nat → Nat → Nat) (pre : List Nat) : Nat := ((List.range n).filter (fun a => !pre.contains a)).foldl (fun m a => min m (row pre a)) pm_OP
theorem pm_min_le (f : Nat → Nat) : ∀ (l : List Nat) (m : Nat), l.foldl (fun m a => min m (f a)) m ≤ m ∧ ∀ a ∈ l, l.foldl (fun m a => min m (f a)) m ≤ f a := by
  intro l
  induction l with
  | nil => intro m; exact ⟨Nat.le_refl _, fun a h => by cases h⟩
  | cons x l ih =>
    intro m
    obtain ⟨h1, h2⟩ := ih (min m (f x))
    refine ⟨?_, fun a ha => ?_⟩
    · exact Nat.le_trans h1 (Nat.min_le_left _ _)
    · rcases List.mem_cons.mp ha with e | ha
      · subst e
        exact Nat.le_trans h1 (Nat.min_le_right _ _)
      · exact h2 a ha
theorem pm_min_eq (f : Nat → Nat) : ∀ (l : List Nat) (m : Nat), l.foldl (fun m a => min m (f a)) m = m ∨ ∃ a ∈ l, l.foldl (fun m a => min m (f a)) m = f a := by
  intro l
  induction l with
  | nil => intro m; exact Or.inl rfl
  | cons x l ih =>
    intro m
    rcases ih (min m (f x)) with h | ⟨a, ha, h⟩
    · by_cases hx : m ≤ f x
      · left
        rw [List.foldl_cons, h, Nat.min_eq_left hx]
      · right
        exact ⟨x, List.mem_cons_self, by rw [List.foldl_cons, h, Nat.min_eq_right (by omega)]⟩
    · right
      exact ⟨a, List.mem_cons_of_mem _ ha, by rw [List.foldl_cons]; exact h⟩
def pm_lp (good alone : Nat → Bool) (f : Nat → pm_S → pm_S) : List Nat → pm_S → pm_S
  | [], S => S
  | a :: as, S => if good a = true then (if alone a = true then f a S else pm_lp good alone f as (f a S)) else pm_lp good alone f as S
def pm_pl (n : Nat) (row : List Nat → Nat → Nat) (code : List Nat → Nat) (alone : Nat → Bool) : Nat → List Nat → pm_S → pm_S
  | 0, pre, S => if code pre < S.2.1 then (S.1, code pre, pre) else S
  | k + 1, pre, S =>
    if S.1.getD pre.length 0 < pm_low n row pre then S else
    pm_lp (fun a => !pre.contains a && decide (row pre a = pm_low n row pre)) alone (fun a T => pm_pl n row code alone k (pre ++ [a]) T) (List.range n)
      (if pm_low n row pre < S.1.getD pre.length 0 then (S.1.take pre.length ++ pm_low n row pre :: List.replicate k pm_OP, pm_OP, S.2.2) else S)
section PMX
variable {n : Nat} {row : List Nat → Nat → Nat} {code : List Nat → Nat} {alone : Nat → Bool}
theorem pm_x_rows {k : Nat} {pre π : List Nat} {a : Nat} (h : π ∈ pm_ext n k (pre ++ [a])) : ∃ Y, pm_rows row [] π = pm_rows row [] pre ++ row pre a :: Y ∧ Y.length = k ∧ π.length = pre.length + 1 + k ∧ ((∀ p b, pm_ok n (p ++ [b]) → row p b < pm_OP) → pm_ok n (pre ++ [a]) → ∀ y t, Y = y :: t → y < pm_OP) := by
  obtain ⟨suf, h1, h2, h3⟩ := pm_ext_mem n k _ _ h
  subst h1
  refine ⟨pm_rows row (pre ++ [a]) suf, ?_, by rw [pm_rows_len, h2], by simp [h2]; omega, ?_⟩
  · rw [pm_rows_app, pm_rows_app]
    simp [pm_rows]
  · intro hrow hok y t e
    cases suf with
    | nil => simp [pm_rows] at e
    | cons b suf =>
      simp only [pm_rows, List.cons.injEq] at e
      rw [← e.1]
      refine hrow _ _ ?_
      have := h3 hok
      have h4 : pre ++ [a] ++ b :: suf = (pre ++ [a] ++ [b]) ++ suf := by simp
      rw [h4] at this
      exact pm_ok_left this
/-- greater rows: nothing changes -/
theorem pm_x_gt {k : Nat} {pre : List Nat} {a v : Nat} {T : pm_S} {W : List Nat} (hT : T.1 = pm_rows row [] pre ++ v :: W) (hv : v < row pre a) : (pm_ext n k (pre ++ [a])).foldl (pm_step row code) T = T := by
  refine pm_fold_noop _ _ (fun π hπ => Or.inl ?_)
  obtain ⟨Y, h1, -⟩ := pm_x_rows (row := row) hπ
  rw [h1, hT, pm_lt_app]
  simp [pm_lt, hv]
/-- the shape of the rows behind some completions -/
theorem pm_x_shape {k x : Nat} {R : List Nat} (P : Nat → Prop) (hx : P x) : ∀ (C : List (List Nat)) (T : pm_S) (v : Nat) (W : List Nat), (∀ π ∈ C, ∃ Y, pm_rows row [] π = R ++ x :: Y ∧ Y.length = k) → T.1 = R ++ v :: W → W.length = k → P v → ∃ v' W', (C.foldl (pm_step row code) T).1 = R ++ v' :: W' ∧ W'.length = k ∧ P v' := by
  intro C
  induction C with
  | nil => intro T v W _ hT hW hv; exact ⟨v, W, hT, hW, hv⟩
  | cons π C ih =>
    intro T v W hC hT hW hv
    obtain ⟨Y, h1, h2⟩ := hC π List.mem_cons_self
    have hC' : ∀ π ∈ C, ∃ Y, pm_rows row [] π = R ++ x :: Y ∧ Y.length = k := fun y hy => hC y (List.mem_cons_of_mem _ hy)
    rw [List.foldl_cons]
    unfold pm_step
    split
    · exact ih _ x Y hC' h1 h2 hx
    · split
      · split
        · exact ih _ v W hC' hT hW hv
        · exact ih _ v W hC' hT hW hv
      · exact ih _ v W hC' hT hW hv
/-- lesser rows: what was known before counts no more -/
theorem pm_x_reset {k : Nat} {pre : List Nat} {a v : Nat} {T : pm_S} {W b : List Nat} (hrow : ∀ p b, pm_ok n (p ++ [b]) → row p b < pm_OP) (hcode : ∀ π, pm_ok n π → π.length = n → code π < pm_OP) (hok : pm_ok n (pre ++ [a])) (hn : pre.length + (k + 1) = n) (hT : T.1 = pm_rows row [] pre ++ v :: W) (hv : row pre a < v) :
    (pm_ext n k (pre ++ [a])).foldl (pm_step row code) T = (pm_ext n k (pre ++ [a])).foldl (pm_step row code) (pm_rows row [] pre ++ row pre a :: List.replicate k pm_OP, pm_OP, b) := by
  have hne := pm_ext_ne n k (pre ++ [a]) (by simp; omega)
  cases hC : pm_ext n k (pre ++ [a]) with
  | nil => exact absurd hC hne
  | cons π C =>
    have hπ : π ∈ pm_ext n k (pre ++ [a]) := by rw [hC]; exact List.mem_cons_self
    obtain ⟨Y, h1, h2, h3, h4⟩ := pm_x_rows (row := row) hπ
    obtain ⟨suf, g1, g2, g3⟩ := pm_ext_mem n k _ _ hπ
    have hcp := hcode π (g3 hok) (by rw [h3]; omega)
    have e1 : pm_step row code T π = (pm_rows row [] π, code π, π) := by
      unfold pm_step
      rw [if_pos]
      rw [h1, hT, pm_lt_app]
      simp [pm_lt, hv]
    have e2 : pm_step row code (pm_rows row [] pre ++ row pre a :: List.replicate k pm_OP, pm_OP, b) π = (pm_rows row [] π, code π, π) := by
      unfold pm_step
      cases Y with
      | nil =>
        have hk : k = 0 := by simpa using h2.symm
        subst hk
        rw [h1]
        simp [pm_lt_irr, hcp]
      | cons y t =>
        have hy := h4 hrow hok y t rfl
        have hk : ∃ j, k = j + 1 := ⟨t.length, by rw [← h2]; rfl⟩
        obtain ⟨j, rfl⟩ := hk
        rw [if_pos]
        rw [h1, pm_lt_app]
        simp [pm_lt, List.replicate_succ, hy]
    rw [List.foldl_cons, List.foldl_cons, e1, e2]
theorem pm_x_loopA {k low : Nat} {pre : List Nat} (hok : pm_ok n pre) (hn : pre.length + (k + 1) = n)
    (hal : ∀ a b, pm_ok n (pre ++ [a]) → pm_ok n (pre ++ [b]) → alone a = true → row pre b = row pre a → ∀ π ∈ pm_ext n k (pre ++ [b]), ∃ π' ∈ pm_ext n k (pre ++ [a]), pm_rows row [] π' = pm_rows row [] π ∧ code π' = code π)
    (ih : ∀ a T, pm_ok n (pre ++ [a]) → T.1.length = n → T.1.take (pre.length + 1) = pm_rows row [] pre ++ [row pre a] → pm_pl n row code alone k (pre ++ [a]) T = (pm_ext n k (pre ++ [a])).foldl (pm_step row code) T)
    (hlow : ∀ a, a < n → a ∉ pre → low ≤ row pre a) :
    ∀ (as : List Nat) (T : pm_S) (W : List Nat), (∀ a ∈ as, a < n) → T.1 = pm_rows row [] pre ++ low :: W → W.length = k →
      pm_lp (fun a => !pre.contains a && decide (row pre a = low)) alone (fun a T => pm_pl n row code alone k (pre ++ [a]) T) as T = (as.filter (fun a => !pre.contains a)).foldl (fun T a => (pm_ext n k (pre ++ [a])).foldl (pm_step row code) T) T := by
  intro as
  induction as with
  | nil => intro T W _ _ _; rfl
  | cons a as iha =>
    intro T W has hT hW
    have ha := has a List.mem_cons_self
    have has' : ∀ x ∈ as, x < n := fun x hx => has x (List.mem_cons_of_mem _ hx)
    by_cases hp : a ∈ pre
    · have hc : (!pre.contains a) = false := by simp [hp]
      rw [List.filter_cons_of_neg (p := fun a => !pre.contains a) (by rw [hc]; decide)]
      unfold pm_lp
      rw [if_neg (by rw [hc]; simp)]
      exact iha T W has' hT hW
    · have hc : (!pre.contains a) = true := by simp [hp]
      rw [List.filter_cons_of_pos (p := fun a => !pre.contains a) hc, List.foldl_cons]
      have hoka := pm_ok_snoc hok ha hp
      unfold pm_lp
      by_cases hr : row pre a = low
      · rw [if_pos (by rw [hc, decide_eq_true hr]; rfl)]
        have hlen : T.1.length = n := by rw [hT]; simp [pm_rows_len, hW]; omega
        have e := ih a T hoka hlen (by rw [hT, hr]; rw [List.take_append, pm_rows_len]; simp [pm_rows_len]; exact List.take_of_length_le (by rw [pm_rows_len]; omega))
        rw [e]
        obtain ⟨v', W', s1, s2, s3⟩ := pm_x_shape (row := row) (code := code) (k := k) (x := low) (R := pm_rows row [] pre) (fun z => z = low) rfl (pm_ext n k (pre ++ [a])) T low W (fun π hπ => by obtain ⟨Y, y1, y2, -⟩ := pm_x_rows (row := row) hπ; exact ⟨Y, by rw [y1, hr], y2⟩) hT hW rfl
        subst s3
        by_cases hl : alone a = true
        · rw [if_pos hl]
          have hlen2 : ∀ π ∈ pm_ext n k (pre ++ [a]), π.length = n := fun π hπ => by obtain ⟨Y, -, -, y3, -⟩ := pm_x_rows (row := row) hπ; omega
          have hseen := pm_fold_seen (row := row) (code := code) (n := n) (pm_ext n k (pre ++ [a])) T hlen hlen2
          generalize hT2 : (pm_ext n k (pre ++ [a])).foldl (pm_step row code) T = T2 at s1 hseen
          symm
          have key : ∀ (bs : List Nat), (∀ b ∈ bs, b < n ∧ b ∉ pre) → bs.foldl (fun T a => (pm_ext n k (pre ++ [a])).foldl (pm_step row code) T) T2 = T2 := by
            intro bs
            induction bs with
            | nil => intro _; rfl
            | cons b bs ihb =>
              intro hb
              obtain ⟨b1, b2⟩ := hb b List.mem_cons_self
              rw [List.foldl_cons]
              have hno : (pm_ext n k (pre ++ [b])).foldl (pm_step row code) T2 = T2 := by
                by_cases hrb : row pre b = v'
                · refine pm_fold_noop _ _ (fun π hπ => ?_)
                  obtain ⟨π', p1, p2, p3⟩ := hal a b hoka (pm_ok_snoc hok b1 b2) hl (by rw [hrb, hr]) π hπ
                  rw [← p2, ← p3]
                  exact hseen π' p1
                · have := hlow b b1 b2
                  exact pm_x_gt s1 (by omega)
              rw [hno]
              exact ihb (fun x hx => hb x (List.mem_cons_of_mem _ hx))
          refine key _ (fun b hb => ?_)
          obtain ⟨q1, q2⟩ := List.mem_filter.mp hb
          exact ⟨has' b q1, by simpa using q2⟩
        · rw [if_neg hl]
          exact iha _ W' has' s1 s2
      · rw [if_neg (by rw [hc, decide_eq_false hr]; decide)]
        have hno : (pm_ext n k (pre ++ [a])).foldl (pm_step row code) T = T := pm_x_gt hT (by have := hlow a ha hp; omega)
        rw [hno]
        exact iha T W has' hT hW
theorem pm_x_loopB {k low : Nat} {pre b : List Nat} (hok : pm_ok n pre) (hn : pre.length + (k + 1) = n)
    (hrow : ∀ p b, pm_ok n (p ++ [b]) → row p b < pm_OP) (hcode : ∀ π, pm_ok n π → π.length = n → code π < pm_OP)
    (hal : ∀ a b, pm_ok n (pre ++ [a]) → pm_ok n (pre ++ [b]) → alone a = true → row pre b = row pre a → ∀ π ∈ pm_ext n k (pre ++ [b]), ∃ π' ∈ pm_ext n k (pre ++ [a]), pm_rows row [] π' = pm_rows row [] π ∧ code π' = code π)
    (ih : ∀ a T, pm_ok n (pre ++ [a]) → T.1.length = n → T.1.take (pre.length + 1) = pm_rows row [] pre ++ [row pre a] → pm_pl n row code alone k (pre ++ [a]) T = (pm_ext n k (pre ++ [a])).foldl (pm_step row code) T)
    (hlow : ∀ a, a < n → a ∉ pre → low ≤ row pre a) :
    ∀ (as : List Nat) (T : pm_S) (v : Nat) (W : List Nat), (∀ a ∈ as, a < n) → T.1 = pm_rows row [] pre ++ v :: W → W.length = k → low < v → (∃ a ∈ as, a ∉ pre ∧ row pre a = low) →
      pm_lp (fun a => !pre.contains a && decide (row pre a = low)) alone (fun a T => pm_pl n row code alone k (pre ++ [a]) T) as (pm_rows row [] pre ++ low :: List.replicate k pm_OP, pm_OP, b) = (as.filter (fun a => !pre.contains a)).foldl (fun T a => (pm_ext n k (pre ++ [a])).foldl (pm_step row code) T) T := by
  intro as
  induction as with
  | nil => intro T v W _ _ _ _ h; obtain ⟨a, ha, -⟩ := h; cases ha
  | cons a as iha =>
    intro T v W has hT hW hv hex
    have ha := has a List.mem_cons_self
    have has' : ∀ x ∈ as, x < n := fun x hx => has x (List.mem_cons_of_mem _ hx)
    by_cases hr : a ∉ pre ∧ row pre a = low
    · obtain ⟨hp, hr⟩ := hr
      have hc : (!pre.contains a) = true := by simp [hp]
      have hoka := pm_ok_snoc hok ha hp
      have hA := pm_x_loopA (n := n) (row := row) (code := code) (alone := alone) hok hn hal ih hlow (a :: as) (pm_rows row [] pre ++ low :: List.replicate k pm_OP, pm_OP, b) (List.replicate k pm_OP) has rfl (by simp)
      rw [hA, List.filter_cons_of_pos (p := fun a => !pre.contains a) hc, List.foldl_cons, List.foldl_cons]
      have e := pm_x_reset (n := n) (row := row) (code := code) (k := k) (b := b) hrow hcode hoka hn hT (by rw [hr]; exact hv)
      rw [e, hr]
    · have hex' : ∃ x ∈ as, x ∉ pre ∧ row pre x = low := by
        obtain ⟨x, h1, h2⟩ := hex
        rcases List.mem_cons.mp h1 with e | h1
        · subst e; exact absurd h2 hr
        · exact ⟨x, h1, h2⟩
      by_cases hp : a ∈ pre
      · have hc : (!pre.contains a) = false := by simp [hp]
        rw [List.filter_cons_of_neg (p := fun a => !pre.contains a) (by rw [hc]; decide)]
        unfold pm_lp
        rw [if_neg (by rw [hc]; simp)]
        exact iha T v W has' hT hW hv hex'
      · have hc : (!pre.contains a) = true := by simp [hp]
        have hr' : ¬ row pre a = low := fun e => hr ⟨hp, e⟩
        rw [List.filter_cons_of_pos (p := fun a => !pre.contains a) hc, List.foldl_cons]
        unfold pm_lp
        rw [if_neg (by rw [hc, decide_eq_false hr']; decide)]
        have hgt : low < row pre a := by have := hlow a ha hp; omega
        obtain ⟨v', W', s1, s2, s3⟩ := pm_x_shape (row := row) (code := code) (k := k) (x := row pre a) (R := pm_rows row [] pre) (fun z => low < z) hgt (pm_ext n k (pre ++ [a])) T v W (fun π hπ => by obtain ⟨Y, y1, y2, -⟩ := pm_x_rows (row := row) hπ; exact ⟨Y, y1, y2⟩) hT hW hv
        exact iha _ v' W' has' s1 s2 s3 hex'
theorem pm_pl_eq (hrow : ∀ p b, pm_ok n (p ++ [b]) → row p b < pm_OP) (hcode : ∀ π, pm_ok n π → π.length = n → code π < pm_OP)
    (hal : ∀ k pre a b, pre.length + (k + 1) = n → pm_ok n (pre ++ [a]) → pm_ok n (pre ++ [b]) → alone a = true → row pre b = row pre a → ∀ π ∈ pm_ext n k (pre ++ [b]), ∃ π' ∈ pm_ext n k (pre ++ [a]), pm_rows row [] π' = pm_rows row [] π ∧ code π' = code π) :
    ∀ (k : Nat) (pre : List Nat) (S : pm_S), pm_ok n pre → pre.length + k = n → S.1.length = n → S.1.take pre.length = pm_rows row [] pre → pm_pl n row code alone k pre S = (pm_ext n k pre).foldl (pm_step row code) S := by
  intro k
  induction k with
  | zero =>
    intro pre S hok hn hS hR
    have e : S.1 = pm_rows row [] pre := by
      rw [← hR]
      exact (List.take_of_length_le (by omega)).symm
    show (if code pre < S.2.1 then (S.1, code pre, pre) else S) = pm_step row code S pre
    unfold pm_step
    rw [← e]
    simp [pm_lt_irr]
  | succ k ihk =>
    intro pre S hok hn hS hR
    have hlow : ∀ a, a < n → a ∉ pre → pm_low n row pre ≤ row pre a := fun a ha hp => (pm_min_le (row pre) _ pm_OP).2 a (List.mem_filter.mpr ⟨List.mem_range.mpr ha, by simp [hp]⟩)
    have hex : ∃ a ∈ List.range n, a ∉ pre ∧ row pre a = pm_low n row pre := by
      rcases pm_min_eq (row pre) ((List.range n).filter (fun a => !pre.contains a)) pm_OP with h | ⟨a, ha, h⟩
      · obtain ⟨a, ha, hp⟩ := pm_free (n := n) (pre := pre) (by omega)
        have h1 := hlow a ha hp
        have h2 := hrow pre a (pm_ok_snoc hok ha hp)
        have h3 : pm_low n row pre = pm_OP := h
        omega
      · obtain ⟨g1, g2⟩ := pm_good ha
        exact ⟨a, List.mem_range.mpr g1, g2, h.symm⟩
    have ih : ∀ a T, pm_ok n (pre ++ [a]) → T.1.length = n → T.1.take (pre.length + 1) = pm_rows row [] pre ++ [row pre a] → pm_pl n row code alone k (pre ++ [a]) T = (pm_ext n k (pre ++ [a])).foldl (pm_step row code) T := by
      intro a T ho hl ht
      refine ihk (pre ++ [a]) T ho (by simp; omega) hl ?_
      rw [List.length_append, List.length_singleton, ht, pm_rows_app]
      rfl
    have hsplit : ∃ v W, S.1 = pm_rows row [] pre ++ v :: W ∧ W.length = k ∧ S.1.getD pre.length 0 = v := by
      have hd : S.1 = S.1.take pre.length ++ S.1.drop pre.length := (List.take_append_drop _ _).symm
      have hdl : (S.1.drop pre.length).length = k + 1 := by rw [List.length_drop]; omega
      cases hdd : S.1.drop pre.length with
      | nil => rw [hdd] at hdl; simp at hdl
      | cons v W =>
        rw [hdd] at hdl
        refine ⟨v, W, by rw [← hR, ← hdd]; exact hd, by simpa using hdl, ?_⟩
        rw [hd, hdd, List.getD_eq_getElem?_getD, List.getElem?_append_right (by rw [List.length_take]; omega)]
        have : pre.length - (List.take pre.length S.1).length = 0 := by rw [List.length_take]; omega
        rw [this]
        rfl
    obtain ⟨v, W, hS1, hW, hv⟩ := hsplit
    have hrn : ∀ a ∈ List.range n, a < n := fun a ha => List.mem_range.mp ha
    have e0 : (pm_ext n (k + 1) pre).foldl (pm_step row code) S = ((List.range n).filter (fun a => !pre.contains a)).foldl (fun T a => (pm_ext n k (pre ++ [a])).foldl (pm_step row code) T) S := pm_fm _ _ _ _
    rw [e0]
    unfold pm_pl
    rw [hv]
    by_cases h1 : v < pm_low n row pre
    · rw [if_pos h1]
      symm
      have key : ∀ (bs : List Nat), (∀ b ∈ bs, b < n ∧ b ∉ pre) → bs.foldl (fun T a => (pm_ext n k (pre ++ [a])).foldl (pm_step row code) T) S = S := by
        intro bs
        induction bs with
        | nil => intro _; rfl
        | cons b bs ihb =>
          intro hb
          obtain ⟨b1, b2⟩ := hb b List.mem_cons_self
          rw [List.foldl_cons, pm_x_gt hS1 (by have := hlow b b1 b2; omega)]
          exact ihb (fun x hx => hb x (List.mem_cons_of_mem _ hx))
      exact key _ (fun b hb => pm_good hb)
    · rw [if_neg h1]
      by_cases h2 : pm_low n row pre < v
      · rw [if_pos h2, hR]
        exact pm_x_loopB hok hn hrow hcode (fun a b => hal k pre a b hn) ih hlow (List.range n) S v W hrn hS1 hW h2 hex
      · rw [if_neg h2]
        have h3 : v = pm_low n row pre := by omega
        exact pm_x_loopA hok hn (fun a b => hal k pre a b hn) ih hlow (List.range n) S W hrn (by rw [hS1, h3]) hW
end PMX
