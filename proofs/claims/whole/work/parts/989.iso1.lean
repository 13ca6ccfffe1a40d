/-! the masks of what is turned: bits laid on the places of the senses that are drawn -/
def dp (u : Nat → Bool) : Nat → Nat → Nat → Nat
  | 0, _, _ => 0
  | m + 1, p, w => if u p = true then w % 2 + 2 * dp u m (p + 1) (w / 2) else 2 * dp u m (p + 1) w
def dp_al (u : Nat → Bool) : Nat → Nat → Nat
  | 0, _ => 0
  | m + 1, p => (if u p = true then 1 else 0) + 2 * dp_al u m (p + 1)
def dp_ct (u : Nat → Bool) : Nat → Nat → Nat
  | 0, _ => 0
  | m + 1, p => (if u p = true then 1 else 0) + dp_ct u m (p + 1)
theorem nb_and (a b x y : Nat) (ha : a < 2) (hb : b < 2) : (a + 2 * x) &&& (b + 2 * y) = (if a = 1 ∧ b = 1 then 1 else 0) + 2 * (x &&& y) := by
  have h1 := Nat.and_div_two (a := a + 2 * x) (b := b + 2 * y)
  have e1 : (a + 2 * x) / 2 = x := by omega
  have e2 : (b + 2 * y) / 2 = y := by omega
  rw [e1, e2] at h1
  have h2 : ((a + 2 * x) &&& (b + 2 * y)) % 2 = if a = 1 ∧ b = 1 then 1 else 0 := by
    have := Nat.and_mod_two_eq_one (a := a + 2 * x) (b := b + 2 * y)
    have m1 : (a + 2 * x) % 2 = a := by omega
    have m2 : (b + 2 * y) % 2 = b := by omega
    rw [m1, m2] at this
    by_cases q : a = 1 ∧ b = 1
    · rw [if_pos q]; exact this.mpr q
    · rw [if_neg q]
      have : ¬ ((a + 2 * x) &&& (b + 2 * y)) % 2 = 1 := fun w => q (this.mp w)
      omega
  have := Nat.div_add_mod ((a + 2 * x) &&& (b + 2 * y)) 2
  omega
theorem dp_sub (u : Nat → Bool) : ∀ m p w, dp u m p w &&& dp_al u m p = dp u m p w := by
  intro m
  induction m with
  | zero => intro p w; exact Nat.zero_and 0
  | succ m ih =>
    intro p w
    unfold dp dp_al
    by_cases h : u p = true
    · rw [if_pos h, if_pos h, nb_and _ _ _ _ (by omega) (by omega), ih]
      congr 1
      by_cases q : w % 2 = 1
      · rw [if_pos ⟨q, rfl⟩, q]
      · rw [if_neg (fun z => q z.1)]; omega
    · rw [if_neg h, if_neg h]
      have := nb_and 0 0 (dp u m (p + 1) w) (dp_al u m (p + 1)) (by decide) (by decide)
      rw [Nat.zero_add] at this
      rw [this, ih]
      simp
theorem dp_0 (u : Nat → Bool) : ∀ m p, dp u m p 0 = 0 := by
  intro m
  induction m with
  | zero => intro p; rfl
  | succ m ih =>
    intro p
    unfold dp
    by_cases h : u p = true
    · rw [if_pos h]; show 0 + 2 * dp u m (p + 1) 0 = 0; rw [ih]
    · rw [if_neg h, ih]
theorem dp_pos (u : Nat → Bool) : ∀ m p w, 0 < w → w < 2 ^ dp_ct u m p → 0 < dp u m p w := by
  intro m
  induction m with
  | zero =>
    intro p w h0 h1
    have : w < 1 := h1
    omega
  | succ m ih =>
    intro p w h0 h1
    unfold dp_ct at h1
    unfold dp
    by_cases h : u p = true
    · rw [if_pos h] at h1 ⊢
      by_cases q : w % 2 = 1
      · omega
      · have := ih (p + 1) (w / 2) (by omega) (by rw [Nat.add_comm, Nat.pow_succ] at h1; omega)
        omega
    · rw [if_neg h, Nat.zero_add] at h1
      rw [if_neg h]
      have := ih (p + 1) w h0 h1
      omega
theorem dp_pred (u : Nat → Bool) : ∀ m p w, 0 < w → w < 2 ^ dp_ct u m p → (dp u m p w - 1) &&& dp_al u m p = dp u m p (w - 1) := by
  intro m
  induction m with
  | zero =>
    intro p w h0 h1
    have : w < 1 := h1
    omega
  | succ m ih =>
    intro p w h0 h1
    unfold dp_ct at h1
    unfold dp dp_al
    by_cases h : u p = true
    · rw [if_pos h] at h1
      rw [if_pos h, if_pos h, if_pos h]
      have h1' : w / 2 < 2 ^ dp_ct u m (p + 1) := by rw [Nat.add_comm, Nat.pow_succ] at h1; omega
      by_cases q : w % 2 = 1
      · have e1 : w % 2 + 2 * dp u m (p + 1) (w / 2) - 1 = 0 + 2 * dp u m (p + 1) (w / 2) := by omega
        have e2 : (w - 1) % 2 = 0 := by omega
        have e3 : (w - 1) / 2 = w / 2 := by omega
        rw [e1, e2, e3, nb_and _ _ _ _ (by decide) (by decide), dp_sub]
        rfl
      · have hp := dp_pos u m (p + 1) (w / 2) (by omega) h1'
        have hi := ih (p + 1) (w / 2) (by omega) h1'
        have e1 : w % 2 + 2 * dp u m (p + 1) (w / 2) - 1 = 1 + 2 * (dp u m (p + 1) (w / 2) - 1) := by omega
        have e2 : (w - 1) % 2 = 1 := by omega
        have e3 : (w - 1) / 2 = w / 2 - 1 := by omega
        rw [e1, e2, e3, nb_and _ _ _ _ (by decide) (by decide), hi]
        rfl
    · rw [if_neg h, Nat.zero_add] at h1
      rw [if_neg h, if_neg h, if_neg h]
      have hp := dp_pos u m (p + 1) w h0 h1
      have hi := ih (p + 1) w h0 h1
      have e1 : 2 * dp u m (p + 1) w - 1 = 1 + 2 * (dp u m (p + 1) w - 1) := by omega
      rw [e1, nb_and _ _ _ _ (by decide) (by decide), hi]
      simp
theorem dp_al_top (u : Nat → Bool) : ∀ m p, dp u m p (2 ^ dp_ct u m p - 1) = dp_al u m p := by
  intro m
  induction m with
  | zero => intro p; rfl
  | succ m ih =>
    intro p
    unfold dp dp_al dp_ct
    by_cases h : u p = true
    · rw [if_pos h, if_pos h]
      have hp : 0 < 2 ^ dp_ct u m (p + 1) := Nat.two_pow_pos _
      have e1 : (2 ^ (1 + dp_ct u m (p + 1)) - 1) % 2 = 1 := by rw [Nat.add_comm, Nat.pow_succ]; omega
      have e2 : (2 ^ (1 + dp_ct u m (p + 1)) - 1) / 2 = 2 ^ dp_ct u m (p + 1) - 1 := by rw [Nat.add_comm, Nat.pow_succ]; omega
      rw [e1, e2, ih]
    · rw [if_neg h, if_neg h, Nat.zero_add, Nat.zero_add, ih]
theorem dp_lt (u : Nat → Bool) : ∀ m p w, dp u m p w < 2 ^ m := by
  intro m
  induction m with
  | zero => intro p w; exact Nat.one_pos
  | succ m ih =>
    intro p w
    unfold dp
    have h1 := ih (p + 1) (w / 2)
    have h2 := ih (p + 1) w
    rw [Nat.pow_succ]
    split <;> omega
/-- a place's bit, and what is left of the way behind it -/
theorem dp_bit (u : Nat → Bool) {m p w : Nat} (h : u p = true) : dp u (m + 1) p w % 2 = w % 2 ∧ dp u (m + 1) p w / 2 = dp u m (p + 1) (w / 2) := by
  have e : dp u (m + 1) p w = w % 2 + 2 * dp u m (p + 1) (w / 2) := by
    show (if u p = true then _ else _) = _
    rw [if_pos h]
  rw [e]
  constructor <;> omega
theorem dp_nobit (u : Nat → Bool) {m p w : Nat} (h : ¬ u p = true) : dp u (m + 1) p w / 2 = dp u m (p + 1) w := by
  have e : dp u (m + 1) p w = 2 * dp u m (p + 1) w := by
    show (if u p = true then _ else _) = _
    rw [if_neg h]
  rw [e]
  omega
theorem dp_skip (u : Nat → Bool) : ∀ j m p w, (∀ q, p ≤ q → q < p + j → ¬ u q = true) → dp u (m + j) p w / 2 ^ j = dp u m (p + j) w := by
  intro j
  induction j with
  | zero => intro m p w _; rw [Nat.pow_zero, Nat.div_one, Nat.add_zero, Nat.add_zero]
  | succ j ih =>
    intro m p w h
    have h0 := dp_nobit u (m := m + j) (w := w) (h p (Nat.le_refl _) (by omega))
    rw [Nat.pow_succ, Nat.mul_comm (2 ^ j) 2, ← Nat.div_div_eq_div_mul, ← Nat.add_assoc, h0, ih m (p + 1) w (fun q h1 h2 => h q (by omega) (by omega))]
    congr 1
    omega
/-- from the front -/
def dp_ap (u : Nat → Bool) : Nat → Nat
  | 0 => 0
  | p + 1 => dp_ap u p + if u p = true then 2 ^ p else 0
def dp_cp (u : Nat → Bool) : Nat → Nat
  | 0 => 0
  | p + 1 => dp_cp u p + if u p = true then 1 else 0
theorem dp_ap_lt (u : Nat → Bool) : ∀ p, dp_ap u p < 2 ^ p := by
  intro p
  induction p with
  | zero => exact Nat.one_pos
  | succ p ih =>
    unfold dp_ap
    rw [Nat.pow_succ]
    split <;> omega
theorem dp_cp_le (u : Nat → Bool) : ∀ p, dp_cp u p ≤ p := by
  intro p
  induction p with
  | zero => exact Nat.le_refl _
  | succ p ih =>
    unfold dp_cp
    split <;> omega
theorem dp_ap_al (u : Nat → Bool) : ∀ m p, dp_ap u (p + m) = dp_ap u p + 2 ^ p * dp_al u m p := by
  intro m
  induction m with
  | zero => intro p; rfl
  | succ m ih =>
    intro p
    have e1 : p + (m + 1) = (p + 1) + m := by omega
    have e2 : dp_ap u (p + 1) = dp_ap u p + if u p = true then 2 ^ p else 0 := rfl
    have e3 : dp_al u (m + 1) p = (if u p = true then 1 else 0) + 2 * dp_al u m (p + 1) := rfl
    rw [e1, ih, e2, e3, Nat.pow_succ, Nat.mul_add, Nat.mul_assoc]
    split <;> omega
theorem dp_cp_ct (u : Nat → Bool) : ∀ m p, dp_cp u (p + m) = dp_cp u p + dp_ct u m p := by
  intro m
  induction m with
  | zero => intro p; rfl
  | succ m ih =>
    intro p
    have e1 : p + (m + 1) = (p + 1) + m := by omega
    have e2 : dp_cp u (p + 1) = dp_cp u p + if u p = true then 1 else 0 := rfl
    have e3 : dp_ct u (m + 1) p = (if u p = true then 1 else 0) + dp_ct u m (p + 1) := rfl
    rw [e1, ih, e2, e3]
    omega
theorem dp_p_skip (u : Nat → Bool) : ∀ j p, (∀ q, p ≤ q → q < p + j → ¬ u q = true) → dp_ap u (p + j) = dp_ap u p ∧ dp_cp u (p + j) = dp_cp u p := by
  intro j
  induction j with
  | zero => intro p _; exact ⟨rfl, rfl⟩
  | succ j ih =>
    intro p h
    have i := ih p (fun q h1 h2 => h q h1 (by omega))
    have hq := h (p + j) (by omega) (by omega)
    constructor
    · show dp_ap u (p + j) + (if u (p + j) = true then 2 ^ (p + j) else 0) = _
      rw [if_neg hq, i.1]; rfl
    · show dp_cp u (p + j) + (if u (p + j) = true then 1 else 0) = _
      rw [if_neg hq, i.2]; rfl
theorem nb_or {x p : Nat} (h : x < 2 ^ p) : x ||| 2 ^ p = x + 2 ^ p := by
  have := Nat.two_pow_add_eq_or_of_lt h 1
  rw [Nat.mul_one] at this
  rw [Nat.or_comm, ← this, Nat.add_comm]
/-- what is met, each once -/
def ins (F : List Nat) (v : Nat) : List Nat := if v ∈ F then F else F ++ [v]
theorem ins_mem (F : List Nat) (v x : Nat) : x ∈ ins F v ↔ x ∈ F ∨ x = v := by
  unfold ins
  by_cases h : v ∈ F
  · rw [if_pos h]
    constructor
    · exact Or.inl
    · rintro (q | q)
      · exact q
      · exact q ▸ h
  · rw [if_neg h, List.mem_append, List.mem_singleton]
theorem ins_nd {F : List Nat} (hF : F.Nodup) (v : Nat) : (ins F v).Nodup := by
  unfold ins
  by_cases h : v ∈ F
  · rw [if_pos h]; exact hF
  · rw [if_neg h, List.nodup_append]
    refine ⟨hF, by simp, ?_⟩
    intro a ha b hb
    rw [List.mem_singleton] at hb
    subst hb
    exact fun q => h (q ▸ ha)
theorem ins_fold : ∀ (l F : List Nat), F.Nodup → (l.foldl ins F).Nodup ∧ ∀ x, x ∈ l.foldl ins F ↔ x ∈ F ∨ x ∈ l := by
  intro l
  induction l with
  | nil => intro F hF; exact ⟨hF, fun x => by simp⟩
  | cons v l ih =>
    intro F hF
    have i := ih (ins F v) (ins_nd hF v)
    refine ⟨i.1, fun x => ?_⟩
    rw [List.foldl_cons, i.2 x, ins_mem, List.mem_cons, or_assoc]
theorem ins_len {F : List Nat} (v : Nat) : (ins F v).length ≤ F.length + 1 := by
  unfold ins
  split
  · omega
  · rw [List.length_append]; exact Nat.le_refl _
def rl : Nat → List Nat
  | 0 => [0]
  | w + 1 => (w + 1) :: rl w
theorem rl_mem : ∀ w x, x ∈ rl w ↔ x ≤ w := by
  intro w
  induction w with
  | zero => intro x; simp [rl]
  | succ w ih =>
    intro x
    show x ∈ (w + 1) :: rl w ↔ _
    rw [List.mem_cons, ih]
    omega
theorem ins_same (f : Nat → Nat) (N : Nat) : (((List.range (N + 1)).map f).foldl ins []).length = (((rl N).map f).foldl ins []).length := by
  have h1 := ins_fold ((List.range (N + 1)).map f) [] List.nodup_nil
  have h2 := ins_fold ((rl N).map f) [] List.nodup_nil
  have hm : ∀ x, x ∈ ((List.range (N + 1)).map f).foldl ins [] ↔ x ∈ ((rl N).map f).foldl ins [] := by
    intro x
    rw [h1.2, h2.2, List.mem_map, List.mem_map]
    constructor
    · rintro (q | ⟨a, ha, e⟩)
      · cases q
      · exact Or.inr ⟨a, (rl_mem N a).mpr (by have := List.mem_range.mp ha; omega), e⟩
    · rintro (q | ⟨a, ha, e⟩)
      · cases q
      · exact Or.inr ⟨a, List.mem_range.mpr (by have := (rl_mem N a).mp ha; omega), e⟩
  exact Nat.le_antisymm (pm_subset_len _ _ h1.1 (fun a ha => (hm a).mp ha)) (pm_subset_len _ _ h2.1 (fun a ha => (hm a).mpr ha))
