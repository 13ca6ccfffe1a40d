/-! a drawing: atoms (element, place), bonds (two ends, order, mark); what the bonds of an atom add up to -/
abbrev pd_D : Type := (Nat × Nat) × ((Nat → Nat) × (Nat → Int) × (Nat → Int)) × ((Nat → Nat) × (Nat → Nat) × (Nat → Nat) × (Nat → Nat))
def pd_n (d : pd_D) : Nat := d.1.1
def pd_b (d : pd_D) : Nat := d.1.2
def pd_e (d : pd_D) : Nat → Nat := d.2.1.1
def pd_x (d : pd_D) : Nat → Int := d.2.1.2.1
def pd_y (d : pd_D) : Nat → Int := d.2.1.2.2
def pd_f (d : pd_D) : Nat → Nat := d.2.2.1
def pd_s (d : pd_D) : Nat → Nat := d.2.2.2.1
def pd_o (d : pd_D) : Nat → Nat := d.2.2.2.2.1
def pd_m (d : pd_D) : Nat → Nat := d.2.2.2.2.2
def pd_v (e : Nat) : Nat := [4, 3, 2, 1, 1, 2].getD e 0
def pd_sum (f : Nat → Nat) : Nat → Nat
  | 0 => 0
  | n + 1 => pd_sum f n + f n
/-- bond k joins a and b -/
def pd_j (d : pd_D) (k a b : Nat) : Bool := (pd_f d k == a && pd_s d k == b) || (pd_f d k == b && pd_s d k == a)
def pd_inc (d : pd_D) (k a : Nat) : Bool := pd_f d k == a || pd_s d k == a
def pd_bo (d : pd_D) (a b : Nat) : Option Nat := (List.range (pd_b d)).find? (fun k => pd_j d k a b)
def pd_og (d : pd_D) (g : Nat → Nat) (a b : Nat) : Nat := match pd_bo d a b with | some k => g k | none => 0
def pd_or (d : pd_D) (a b : Nat) : Nat := pd_og d (pd_o d) a b
def pd_lk (d : pd_D) (a b : Nat) : Nat := match pd_bo d a b with | some k => k + 1 | none => 0
def pd_use (d : pd_D) (a : Nat) : Nat := pd_sum (fun k => if pd_inc d k a = true then pd_o d k else 0) (pd_b d)
def pd_lf (d : pd_D) (a : Nat) : Nat := pd_v (pd_e d a) - pd_use d a
def pd_W (d : pd_D) : Prop := (pd_n d ≤ 7 ∧ pd_b d ≤ 9) ∧ (∀ i, i < pd_n d → pd_e d i < 6 ∧ -1000 ≤ pd_x d i ∧ pd_x d i ≤ 1000 ∧ -1000 ≤ pd_y d i ∧ pd_y d i ≤ 1000) ∧
  (∀ k, k < pd_b d → pd_f d k < pd_n d ∧ pd_s d k < pd_n d ∧ pd_f d k ≠ pd_s d k ∧ 1 ≤ pd_o d k ∧ pd_o d k ≤ 3 ∧ pd_m d k ≤ 2) ∧
  (∀ i j a b, i < pd_b d → j < pd_b d → pd_j d i a b = true → pd_j d j a b = true → i = j) ∧
  (∀ a, a < pd_n d → pd_use d a ≤ pd_v (pd_e d a))
theorem pd_sum_congr {f g : Nat → Nat} : ∀ n, (∀ i, i < n → f i = g i) → pd_sum f n = pd_sum g n := by
  intro n
  induction n with
  | zero => intro _; rfl
  | succ n ih => intro h; show pd_sum f n + f n = pd_sum g n + g n; rw [ih (fun i hi => h i (by omega)), h n (by omega)]
theorem pd_sum_zero : ∀ n, pd_sum (fun _ => 0) n = 0 := by
  intro n
  induction n with
  | zero => rfl
  | succ n ih => show pd_sum (fun _ => 0) n + 0 = 0; rw [ih]
theorem pd_sum_add (f g : Nat → Nat) : ∀ n, pd_sum (fun i => f i + g i) n = pd_sum f n + pd_sum g n := by
  intro n
  induction n with
  | zero => rfl
  | succ n ih => show pd_sum (fun i => f i + g i) n + (f n + g n) = (pd_sum f n + f n) + (pd_sum g n + g n); rw [ih]; omega
theorem pd_sum_swap (f : Nat → Nat → Nat) (m : Nat) : ∀ n, pd_sum (fun i => pd_sum (fun j => f i j) m) n = pd_sum (fun j => pd_sum (fun i => f i j) n) m := by
  intro n
  induction n with
  | zero => exact (pd_sum_zero m).symm
  | succ n ih =>
    show pd_sum (fun i => pd_sum (fun j => f i j) m) n + pd_sum (fun j => f n j) m = pd_sum (fun j => pd_sum (fun i => f i j) n + f n j) m
    rw [ih, pd_sum_add]
theorem pd_sum_one {c v : Nat} : ∀ n, pd_sum (fun i => if i = c then v else 0) n = if c < n then v else 0 := by
  intro n
  induction n with
  | zero => rfl
  | succ n ih =>
    show pd_sum (fun i => if i = c then v else 0) n + (if n = c then v else 0) = _
    rw [ih]
    by_cases h : n = c
    · subst h; simp
    · by_cases h2 : c < n
      · rw [if_pos h2, if_neg h, if_pos (by omega)]; rfl
      · rw [if_neg h2, if_neg h, if_neg (by omega)]
/-- of at most one that fits: the sum is its value -/
theorem pd_sum_find {P : Nat → Bool} {f : Nat → Nat} : ∀ n, (∀ i j, i < n → j < n → P i = true → P j = true → i = j) → pd_sum (fun k => if P k = true then f k else 0) n = match (List.range n).find? P with | some k => f k | none => 0 := by
  intro n
  induction n with
  | zero => intro _; rfl
  | succ n ih =>
    intro h
    have h' := ih (fun i j hi hj => h i j (by omega) (by omega))
    show pd_sum (fun k => if P k = true then f k else 0) n + (if P n = true then f n else 0) = _
    rw [h', List.range_succ, List.find?_append]
    cases hf : (List.range n).find? P with
    | none => cases hp : P n <;> simp [hp]
    | some k =>
      have hk : P k = true := List.find?_some hf
      have hkn : k < n := List.mem_range.mp (List.mem_of_find?_eq_some hf)
      have : P n = false := by
        cases hp : P n with
        | false => rfl
        | true => have := h k n (by omega) (by omega) hk hp; omega
      simp [this]
theorem pd_og_sum {d : pd_D} (h : pd_W d) (g : Nat → Nat) (a b : Nat) : pd_og d g a b = pd_sum (fun k => if pd_j d k a b = true then g k else 0) (pd_b d) := by
  rw [pd_sum_find _ (fun i j hi hj h1 h2 => h.2.2.2.1 i j a b hi hj h1 h2)]
  rfl
theorem pd_j_end {d : pd_D} {k a : Nat} (hne : pd_f d k ≠ pd_s d k) (v n : Nat) (hf : pd_f d k < n) (hs : pd_s d k < n) : pd_sum (fun b => if pd_j d k a b = true then v else 0) n = if pd_inc d k a = true then v else 0 := by
  by_cases h1 : pd_f d k = a
  · have e : ∀ b, (pd_j d k a b = true) = (b = pd_s d k) := by
      intro b
      simp only [pd_j, Bool.or_eq_true, Bool.and_eq_true, beq_iff_eq, eq_iff_iff]
      constructor
      · rintro (⟨_, h⟩ | ⟨h, h2⟩)
        · exact h.symm
        · exact absurd (h1.trans h2.symm) hne
      · intro h; exact Or.inl ⟨h1, h.symm⟩
    have e2 : pd_inc d k a = true := by simp [pd_inc, h1]
    rw [if_pos e2]
    have := pd_sum_one (c := pd_s d k) (v := v) n
    rw [if_pos hs] at this
    exact Eq.trans (pd_sum_congr n (fun i _ => by simp only [e i])) this
  · by_cases h2 : pd_s d k = a
    · have e : ∀ b, (pd_j d k a b = true) = (b = pd_f d k) := by
        intro b
        simp only [pd_j, Bool.or_eq_true, Bool.and_eq_true, beq_iff_eq, eq_iff_iff]
        constructor
        · rintro (⟨h, _⟩ | ⟨h, _⟩)
          · exact absurd h h1
          · exact h.symm
        · intro h; exact Or.inr ⟨h.symm, h2⟩
      have e2 : pd_inc d k a = true := by simp [pd_inc, h2]
      rw [if_pos e2]
      have := pd_sum_one (c := pd_f d k) (v := v) n
      rw [if_pos hf] at this
      exact Eq.trans (pd_sum_congr n (fun i _ => by simp only [e i])) this
    · have e : ∀ b, pd_j d k a b = false := by
        intro b
        simp [pd_j, h1, h2]
      have e2 : pd_inc d k a = false := by simp [pd_inc, h1, h2]
      rw [e2, if_neg (by decide)]
      exact Eq.trans (pd_sum_congr n (fun i _ => by rw [e i]; rfl)) (pd_sum_zero n)
theorem pd_sum_og {d : pd_D} (h : pd_W d) (g : Nat → Nat) (a : Nat) : pd_sum (fun b => pd_og d g a b) (pd_n d) = pd_sum (fun k => if pd_inc d k a = true then g k else 0) (pd_b d) := by
  have e1 : pd_sum (fun b => pd_og d g a b) (pd_n d) = pd_sum (fun b => pd_sum (fun k => if pd_j d k a b = true then g k else 0) (pd_b d)) (pd_n d) := pd_sum_congr _ (fun b _ => pd_og_sum h g a b)
  rw [e1, pd_sum_swap]
  refine pd_sum_congr _ (fun k hk => ?_)
  obtain ⟨h1, h2, h3, -⟩ := h.2.2.1 k hk
  exact pd_j_end h3 _ _ h1 h2
theorem pd_sum_or {d : pd_D} (h : pd_W d) (a : Nat) : pd_sum (fun b => pd_or d a b) (pd_n d) = pd_use d a := pd_sum_og h (pd_o d) a
theorem pd_bo_some {d : pd_D} {a b k : Nat} (h : pd_bo d a b = some k) : k < pd_b d ∧ pd_j d k a b = true :=
  ⟨List.mem_range.mp (List.mem_of_find?_eq_some h), List.find?_some (p := fun k => pd_j d k a b) h⟩
theorem pd_bo_of {d : pd_D} (h : pd_W d) {a b k : Nat} (hk : k < pd_b d) (hj : pd_j d k a b = true) : pd_bo d a b = some k := by
  cases hb : pd_bo d a b with
  | none =>
    have := List.find?_eq_none.mp hb k (List.mem_range.mpr hk)
    exact absurd hj this
  | some i =>
    obtain ⟨h1, h2⟩ := pd_bo_some hb
    rw [h.2.2.2.1 i k a b h1 hk h2 hj]
theorem pd_j_comm (d : pd_D) (k a b : Nat) : pd_j d k a b = pd_j d k b a := by
  unfold pd_j
  rw [Bool.or_comm]
theorem pd_bo_comm (d : pd_D) (a b : Nat) : pd_bo d a b = pd_bo d b a := by
  unfold pd_bo
  congr 1
  funext k
  exact pd_j_comm d k a b
