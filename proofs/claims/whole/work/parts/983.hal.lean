/-! two atoms alone may be swapped: the same rows, the same code -/
def sw (a b x : Nat) : Nat := if x = a then b else if x = b then a else x
theorem sw_inj (a b : Nat) {x y : Nat} (h : sw a b x = sw a b y) : x = y := by
  unfold sw at h
  split at h <;> split at h <;> (try split at h) <;> (try split at h) <;> omega
theorem sw_id {a b x : Nat} (h1 : x ≠ a) (h2 : x ≠ b) : sw a b x = x := by
  unfold sw
  rw [if_neg h1, if_neg h2]
theorem ps_sg_congr {num num' : Nat → Nat} : ∀ L : List Nat, (∀ x ∈ L, num x = num' x) → ps_sg num L = ps_sg num' L := by
  intro L
  induction L with
  | nil => intro _; rfl
  | cons x L ih =>
    intro h
    have hx := h x List.mem_cons_self
    have hp : ∀ M : List Nat, (∀ y ∈ M, num y = num' y) → ps_pr num x M = ps_pr num' x M := by
      intro M
      induction M with
      | nil => intro _; rfl
      | cons y M ihM =>
        intro hM
        show ps_s num x y * ps_pr num x M = ps_s num' x y * ps_pr num' x M
        rw [ihM (fun z hz => hM z (List.mem_cons_of_mem _ hz))]
        unfold ps_s
        rw [hx, hM y List.mem_cons_self]
    show ps_pr num x L * ps_sg num L = ps_pr num' x L * ps_sg num' L
    rw [hp L (fun y hy => h y (List.mem_cons_of_mem _ hy)), ih (fun y hy => h y (List.mem_cons_of_mem _ hy))]
theorem idx_map {s : Nat → Nat} (hs : ∀ x y, s x = s y → x = y) (y : Nat) : ∀ l : List Nat, (l.map s).idxOf (s y) = l.idxOf y := by
  intro l
  induction l with
  | nil => rfl
  | cons x l ih =>
    rw [List.map_cons, List.idxOf_cons, List.idxOf_cons, ih]
    by_cases h : x = y
    · subst h; simp
    · have h1 : (s x == s y) = false := by simp; exact fun q => h (hs _ _ q)
      have h2 : (x == y) = false := by simp; exact h
      rw [h1, h2]
theorem pm_rows_map {row : List Nat → Nat → Nat} {s : Nat → Nat} (h : ∀ p x, row (p.map s) (s x) = row p x) : ∀ t pre, pm_rows row (pre.map s) (t.map s) = pm_rows row pre t := by
  intro t
  induction t with
  | nil => intro pre; rfl
  | cons x t ih =>
    intro pre
    have e : pre.map s ++ [s x] = (pre ++ [x]).map s := by simp
    show row (pre.map s) (s x) :: pm_rows row (pre.map s ++ [s x]) (t.map s) = row pre x :: pm_rows row (pre ++ [x]) t
    rw [h, e, ih]
theorem ls_map_getD {s : Nat → Nat} {p : List Nat} {j : Nat} (hj : j < p.length) : (p.map s).getD j 0 = s (p.getD j 0) := by
  simp [List.getD_eq_getElem?_getD, List.getElem?_map, List.getElem?_eq_getElem hj]
section HAL
variable {d : pd_D}
theorem sw_bo {a b : Nat} (na : ∀ y, pd_bo d a y = none) (nb : ∀ y, pd_bo d b y = none) (x y : Nat) : pd_bo d (sw a b x) (sw a b y) = pd_bo d x y := by
  have na' : ∀ y, pd_bo d y a = none := fun y => by rw [pd_bo_comm]; exact na y
  have nb' : ∀ y, pd_bo d y b = none := fun y => by rw [pd_bo_comm]; exact nb y
  by_cases h1 : x = a
  · subst h1; unfold sw; rw [if_pos rfl, nb, na]
  · by_cases h2 : x = b
    · subst h2
      have : sw a x x = a := by unfold sw; rw [if_neg h1, if_pos rfl]
      rw [this, na, nb]
    · rw [sw_id h1 h2]
      by_cases h3 : y = a
      · subst h3
        have : sw y b y = b := by unfold sw; rw [if_pos rfl]
        rw [this, nb', na']
      · by_cases h4 : y = b
        · subst h4
          have : sw a y y = a := by unfold sw; rw [if_neg h3, if_pos rfl]
          rw [this, na', nb']
        · rw [sw_id h3 h4]
theorem sw_row {a b : Nat} (na : ∀ y, pd_bo d a y = none) (nb : ∀ y, pd_bo d b y = none) (hh : pd_hd d a = pd_hd d b) (p : List Nat) (x : Nat) : pd_row d (p.map (sw a b)) (sw a b x) = pd_row d p x := by
  unfold pd_row
  rw [List.length_map]
  congr 1
  · unfold sw
    split
    · rename_i e; rw [e, hh]
    · split
      · rename_i e; rw [e, hh]
      · rfl
  · refine pd_sum_congr _ (fun j hj => ?_)
    rw [ls_map_getD hj]
    unfold pd_or pd_og
    rw [sw_bo na nb]
theorem sw_os {a b : Nat} (na : ∀ y, pd_bo d a y = none) (nb : ∀ y, pd_bo d b y = none) (π : List Nat) (x ex : Nat) : pd_os d (pd_num (π.map (sw a b))) x ex = pd_os d (pd_num π) x ex := by
  unfold pd_os
  refine ps_sg_congr _ (fun y hy => ?_)
  have hbo : (pd_bo d x y).isSome = true := by
    unfold pd_nl at hy
    have := (List.mem_filter.mp hy).2
    simp only [Bool.and_eq_true] at this
    exact this.1
  have hya : y ≠ a := fun q => by rw [q, pd_bo_comm, na] at hbo; cases hbo
  have hyb : y ≠ b := fun q => by rw [q, pd_bo_comm, nb] at hbo; cases hbo
  have := idx_map (s := sw a b) (fun x y q => sw_inj a b q) y π
  rw [sw_id hya hyb] at this
  exact this
theorem ls_foldl_congr {f g : Nat → Nat → Nat} : ∀ (l : List Nat) (c : Nat), (∀ c x, f c x = g c x) → l.foldl f c = l.foldl g c := by
  intro l
  induction l with
  | nil => intro c _; rfl
  | cons x l ih => intro c h; rw [List.foldl_cons, List.foldl_cons, h, ih _ h]
theorem ls_flatMap_congr {f g : Nat → List Nat} : ∀ (l : List Nat), (∀ x ∈ l, f x = g x) → l.flatMap f = l.flatMap g := by
  intro l
  induction l with
  | nil => intro _; rfl
  | cons x l ih => intro h; rw [List.flatMap_cons, List.flatMap_cons, h x List.mem_cons_self, ih (fun y hy => h y (List.mem_cons_of_mem _ hy))]
theorem ls_filterMap_congr {f g : Nat → Option Nat} : ∀ (l : List Nat), (∀ x ∈ l, f x = g x) → l.filterMap f = l.filterMap g := by
  intro l
  induction l with
  | nil => intro _; rfl
  | cons x l ih => intro h; rw [List.filterMap_cons, List.filterMap_cons, h x List.mem_cons_self, ih (fun y hy => h y (List.mem_cons_of_mem _ hy))]
theorem sw_code {a b : Nat} (na : ∀ y, pd_bo d a y = none) (nb : ∀ y, pd_bo d b y = none) {A B : Nat → Int} (ha : A a = 0) (hb : A b = 0) (π : List Nat) : pd_code d A B (π.map (sw a b)) = pd_code d A B π := by
  rw [pd_code_eq, pd_code_eq, List.length_map]
  have e1 : cd_H d (π.map (sw a b)) π.length = cd_H d π π.length := by
    unfold cd_H
    refine ls_flatMap_congr _ (fun i hi => ls_filterMap_congr _ (fun j hj => ?_))
    have hi' := List.mem_range.mp hi
    have hj' := List.mem_range.mp hj
    unfold cd_h
    rw [ls_map_getD hi', ls_map_getD (by omega), sw_bo na nb]
  have e2 : (π.map (sw a b)).foldl (cd_A d A (π.map (sw a b))) 0 = π.foldl (cd_A d A π) 0 := by
    rw [List.foldl_map]
    refine ls_foldl_congr _ _ (fun c x => ?_)
    unfold cd_A
    rw [sw_os na nb]
    by_cases h1 : x = a
    · subst h1
      have : sw x b x = b := by unfold sw; rw [if_pos rfl]
      rw [this, ha, hb, Int.zero_mul, Int.zero_mul]
    · by_cases h2 : x = b
      · subst h2
        have : sw a x x = a := by unfold sw; rw [if_neg h1, if_pos rfl]
        rw [this, ha, hb, Int.zero_mul, Int.zero_mul]
      · rw [sw_id h1 h2]
  rw [e1, e2]
  refine ls_foldl_congr _ _ (fun c k => ?_)
  unfold cd_B
  rw [sw_os na nb, sw_os na nb]
end HAL
