/-! a number that turns its sign with each two neighbours that stand the other way round -/
def ps_s (num : Nat → Nat) (x y : Nat) : Int := if num y < num x then -1 else 1
def ps_pr (num : Nat → Nat) (x : Nat) : List Nat → Int
  | [] => 1
  | y :: L => ps_s num x y * ps_pr num x L
def ps_ql (num : Nat → Nat) (z : Nat) : List Nat → Int
  | [] => 1
  | y :: L => ps_s num y z * ps_ql num z L
def ps_sg (num : Nat → Nat) : List Nat → Int
  | [] => 1
  | x :: L => ps_pr num x L * ps_sg num L
def ps_in (num : Nat → Nat) (x : Nat) : List Nat → List Nat
  | [] => [x]
  | y :: L => if num y < num x then y :: ps_in num x L else x :: y :: L
def ps_st (num : Nat → Nat) : List Nat → List Nat
  | [] => []
  | x :: L => ps_in num x (ps_st num L)
def ps_so (num : Nat → Nat) (L : List Nat) : Prop := L.Pairwise (fun a b => num a < num b)
theorem ps_in_mem (num : Nat → Nat) (x : Nat) : ∀ (L : List Nat) (a : Nat), a ∈ ps_in num x L ↔ a = x ∨ a ∈ L := by
  intro L
  induction L with
  | nil => intro a; simp [ps_in]
  | cons y L ih =>
    intro a
    unfold ps_in
    split
    · simp only [List.mem_cons, ih]
      constructor
      · rintro (h | h | h)
        · exact Or.inr (Or.inl h)
        · exact Or.inl h
        · exact Or.inr (Or.inr h)
      · rintro (h | h | h)
        · exact Or.inr (Or.inl h)
        · exact Or.inl h
        · exact Or.inr (Or.inr h)
    · simp
theorem ps_st_mem (num : Nat → Nat) : ∀ (L : List Nat) (a : Nat), a ∈ ps_st num L ↔ a ∈ L := by
  intro L
  induction L with
  | nil => intro a; simp [ps_st]
  | cons x L ih => intro a; simp [ps_st, ps_in_mem, ih]
theorem ps_in_so (num : Nat → Nat) (x : Nat) : ∀ (L : List Nat), ps_so num L → (∀ y ∈ L, num y ≠ num x) → ps_so num (ps_in num x L) := by
  intro L
  induction L with
  | nil => intro _ _; simp [ps_in, ps_so]
  | cons y L ih =>
    intro hs hn
    obtain ⟨h1, h2⟩ := List.pairwise_cons.mp hs
    unfold ps_in
    split
    · rename_i h
      refine List.pairwise_cons.mpr ⟨fun a ha => ?_, ih h2 (fun z hz => hn z (List.mem_cons_of_mem _ hz))⟩
      rcases (ps_in_mem num x L a).mp ha with e | ha
      · subst e; exact h
      · exact h1 a ha
    · rename_i h
      have hxy : num x < num y := by have := hn y List.mem_cons_self; omega
      refine List.pairwise_cons.mpr ⟨fun a ha => ?_, hs⟩
      rcases List.mem_cons.mp ha with e | ha
      · subst e; exact hxy
      · exact Nat.lt_trans hxy (h1 a ha)
theorem ps_st_so (num : Nat → Nat) : ∀ (L : List Nat), L.Nodup → (∀ a ∈ L, ∀ b ∈ L, num a = num b → a = b) → ps_so num (ps_st num L) := by
  intro L
  induction L with
  | nil => intro _ _; simp [ps_st, ps_so]
  | cons x L ih =>
    intro hn hi
    obtain ⟨h1, h2⟩ := List.nodup_cons.mp hn
    refine ps_in_so num x _ (ih h2 (fun a ha b hb => hi a (List.mem_cons_of_mem _ ha) b (List.mem_cons_of_mem _ hb))) (fun y hy e => ?_)
    have hy' := (ps_st_mem num L y).mp hy
    have := hi y (List.mem_cons_of_mem _ hy') x List.mem_cons_self e
    subst this
    exact h1 hy'
theorem ps_uni (num : Nat → Nat) : ∀ (l m : List Nat), ps_so num l → ps_so num m → (∀ a, a ∈ l ↔ a ∈ m) → l = m := by
  intro l
  induction l with
  | nil =>
    intro m _ _ h
    cases m with
    | nil => rfl
    | cons b m => exact absurd ((h b).mpr List.mem_cons_self) (by simp)
  | cons a l ih =>
    intro m hl hm h
    cases m with
    | nil => exact absurd ((h a).mp List.mem_cons_self) (by simp)
    | cons b m =>
      obtain ⟨l1, l2⟩ := List.pairwise_cons.mp hl
      obtain ⟨m1, m2⟩ := List.pairwise_cons.mp hm
      have hab : a = b := by
        rcases List.mem_cons.mp ((h a).mp List.mem_cons_self) with e | e
        · exact e
        · rcases List.mem_cons.mp ((h b).mpr List.mem_cons_self) with e2 | e2
          · exact e2.symm
          · have q1 := m1 a e
            have q2 := l1 b e2
            omega
      subst hab
      refine congrArg (a :: ·) (ih m l2 m2 (fun x => ?_))
      constructor
      · intro hx
        rcases List.mem_cons.mp ((h x).mp (List.mem_cons_of_mem _ hx)) with e | e
        · subst e; have := l1 x hx; omega
        · exact e
      · intro hx
        rcases List.mem_cons.mp ((h x).mpr (List.mem_cons_of_mem _ hx)) with e | e
        · subst e; have := m1 x hx; omega
        · exact e
theorem ps_pr_in (num : Nat → Nat) (x y : Nat) : ∀ L : List Nat, ps_pr num x (ps_in num y L) = ps_s num x y * ps_pr num x L := by
  intro L
  induction L with
  | nil => rfl
  | cons z L ih =>
    unfold ps_in
    split
    · show ps_s num x z * ps_pr num x (ps_in num y L) = ps_s num x y * (ps_s num x z * ps_pr num x L)
      rw [ih, Int.mul_left_comm]
    · rfl
theorem ps_pr_st (num : Nat → Nat) (x : Nat) : ∀ L : List Nat, ps_pr num x (ps_st num L) = ps_pr num x L := by
  intro L
  induction L with
  | nil => rfl
  | cons z L ih =>
    show ps_pr num x (ps_in num z (ps_st num L)) = ps_s num x z * ps_pr num x L
    rw [ps_pr_in, ih]
theorem ps_pr_1 (num : Nat → Nat) (x : Nat) : ∀ L : List Nat, (∀ y ∈ L, ¬ num y < num x) → ps_pr num x L = 1 := by
  intro L
  induction L with
  | nil => intro _; rfl
  | cons y L ih =>
    intro h
    show ps_s num x y * ps_pr num x L = 1
    rw [ih (fun z hz => h z (List.mem_cons_of_mem _ hz))]
    unfold ps_s
    rw [if_neg (h y List.mem_cons_self)]
    rfl
theorem ps_in_D {num : Nat → Nat} {F : List Nat → Int} (hF : ∀ l1 x y l2, F (l1 ++ y :: x :: l2) = - F (l1 ++ x :: y :: l2)) (x : Nat) : ∀ (L l1 : List Nat), ps_so num L → F (l1 ++ ps_in num x L) = ps_pr num x L * F (l1 ++ x :: L) := by
  intro L
  induction L with
  | nil => intro l1 _; simp [ps_in, ps_pr]
  | cons y L ih =>
    intro l1 hs
    obtain ⟨h1, h2⟩ := List.pairwise_cons.mp hs
    unfold ps_in
    split
    · rename_i h
      have e := ih (l1 ++ [y]) h2
      simp only [List.append_assoc, List.singleton_append] at e
      rw [e, hF l1 x y L]
      show _ = (ps_s num x y * ps_pr num x L) * _
      unfold ps_s
      rw [if_pos h]
      grind
    · rename_i h
      rw [ps_pr_1 num x (y :: L) ?_]
      · simp
      · intro z hz
        rcases List.mem_cons.mp hz with e | hz
        · subst e; exact h
        · have := h1 z hz; omega
theorem ps_st_D {num : Nat → Nat} {F : List Nat → Int} (hF : ∀ l1 x y l2, F (l1 ++ y :: x :: l2) = - F (l1 ++ x :: y :: l2)) : ∀ (L l1 : List Nat), L.Nodup → (∀ a ∈ L, ∀ b ∈ L, num a = num b → a = b) → F (l1 ++ ps_st num L) = ps_sg num L * F (l1 ++ L) := by
  intro L
  induction L with
  | nil => intro l1 _ _; simp [ps_st, ps_sg]
  | cons x L ih =>
    intro l1 hn hi
    have hn2 := (List.nodup_cons.mp hn).2
    have hi2 : ∀ a ∈ L, ∀ b ∈ L, num a = num b → a = b := fun a ha b hb => hi a (List.mem_cons_of_mem _ ha) b (List.mem_cons_of_mem _ hb)
    show F (l1 ++ ps_in num x (ps_st num L)) = (ps_pr num x L * ps_sg num L) * _
    rw [ps_in_D hF x _ l1 (ps_st_so num L hn2 hi2), ps_pr_st]
    have e := ih (l1 ++ [x]) hn2 hi2
    simp only [List.append_assoc, List.singleton_append] at e
    rw [e, Int.mul_assoc]
theorem ps_sg_snoc (num : Nat → Nat) (z : Nat) : ∀ L : List Nat, ps_sg num (L ++ [z]) = ps_sg num L * ps_ql num z L := by
  intro L
  induction L with
  | nil => rfl
  | cons x L ih =>
    have hp : ∀ L : List Nat, ps_pr num x (L ++ [z]) = ps_pr num x L * ps_s num x z := by
      intro L
      induction L with
      | nil => simp [ps_pr]
      | cons y L ih2 => show ps_s num x y * ps_pr num x (L ++ [z]) = _; rw [ih2, ← Int.mul_assoc]; rfl
    show ps_pr num x (L ++ [z]) * ps_sg num (L ++ [z]) = (ps_pr num x L * ps_sg num L) * (ps_s num x z * ps_ql num z L)
    rw [ih, hp]
    grind
def ps_d3 (a b c d e f g h i : Int) : Int := a * (e * i - f * h) - b * (d * i - f * g) + c * (d * h - e * g)
def ps_D (X Y Z : Nat → Int) (l : List Nat) : Int := match l with
  | [p, q, r] => ps_d3 (X p) (Y p) (Z p) (X q) (Y q) (Z q) (X r) (Y r) (Z r)
  | [p, q, r, s] => ps_d3 (X p - X s) (Y p - Y s) (Z p - Z s) (X q - X s) (Y q - Y s) (Z q - Z s) (X r - X s) (Y r - Y s) (Z r - Z s)
  | _ => 0
theorem ps_D_anti (X Y Z : Nat → Int) : ∀ l1 x y l2, ps_D X Y Z (l1 ++ y :: x :: l2) = - ps_D X Y Z (l1 ++ x :: y :: l2) := by
  intro l1 x y l2
  match l1, l2 with
  | [], [] => simp [ps_D]
  | [], [a] => simp only [List.nil_append, ps_D, ps_d3]; grind
  | [], [a, b] => simp only [List.nil_append, ps_D, ps_d3]; grind
  | [], _ :: _ :: _ :: _ => simp [ps_D]
  | [a], [] => simp only [List.cons_append, List.nil_append, ps_D, ps_d3]; grind
  | [a], [b] => simp only [List.cons_append, List.nil_append, ps_D, ps_d3]; grind
  | [a], _ :: _ :: _ => simp [ps_D]
  | [a, b], [] => simp only [List.cons_append, List.nil_append, ps_D, ps_d3]; grind
  | [a, b], _ :: _ => simp [ps_D]
  | a :: b :: c :: l, _ =>
    cases l <;> simp [ps_D]
