/-! the reference: the search through all numberings -/
theorem sf_up_self (σ : sf_St) (c i : Nat) : sf_up σ c i (σ c i) = σ := by
  funext c' i'
  rw [sf_up_at]
  by_cases h1 : c' = c
  · subst h1
    rw [if_pos rfl]
    by_cases h2 : i' = i
    · subst h2; rw [if_pos rfl]
    · rw [if_neg h2]
  · rw [if_neg h1]
theorem pm_rows_at (row : List Nat → Nat → Nat) : ∀ (s pre : List Nat) (i : Nat), i < s.length → (pm_rows row pre s).getD i 0 = row (pre ++ s.take i) (s.getD i 0) := by
  intro s
  induction s with
  | nil => intro pre i h; simp at h
  | cons a s ih =>
    intro pre i h
    cases i with
    | zero => show row pre a = _; simp
    | succ i =>
      have := ih (pre ++ [a]) i (by simp at h; omega)
      show (pm_rows row (pre ++ [a]) s).getD i 0 = _
      rw [this]
      simp
theorem ls_ext {l m : List Nat} (hl : l.length = m.length) (h : ∀ i, i < l.length → l.getD i 0 = m.getD i 0) : l = m := by
  apply List.ext_getElem hl
  intro i h1 h2
  have := h i h1
  simpa [List.getD_eq_getElem?_getD, List.getElem?_eq_getElem h1, List.getElem?_eq_getElem h2] using this
theorem ls_split {l : List Nat} {i : Nat} (hi : i < l.length) : l = l.take i ++ l.getD i 0 :: l.drop (i + 1) := by
  have e : l.getD i 0 = l[i] := by simp [List.getD_eq_getElem?_getD, List.getElem?_eq_getElem hi]
  rw [e, ← List.drop_eq_getElem_cons hi, List.take_append_drop]
theorem pm_lt_at {R L : List Nat} {n i : Nat} (hR : R.length = n) (hL : L.length = n) (hi : i < n) (he : ∀ j, j < i → R.getD j 0 = L.getD j 0) : (R.getD i 0 < L.getD i 0 → pm_lt R L = true) ∧ (L.getD i 0 < R.getD i 0 → pm_lt R L = false ∧ R ≠ L) := by
  have et : R.take i = L.take i := by
    apply ls_ext
    · rw [List.length_take, List.length_take, hR, hL]
    · intro j hj
      rw [List.length_take] at hj
      rw [pk_take _ (by omega), pk_take _ (by omega)]
      exact he j (by omega)
  have s1 := ls_split (l := R) (i := i) (by omega)
  have s2 := ls_split (l := L) (i := i) (by omega)
  rw [et] at s1
  have hlt : pm_lt R L = pm_lt (R.getD i 0 :: R.drop (i + 1)) (L.getD i 0 :: L.drop (i + 1)) := by
    have := pm_lt_app (L.take i) (R.getD i 0 :: R.drop (i + 1)) (L.getD i 0 :: L.drop (i + 1))
    rw [← s1, ← s2] at this
    exact this
  constructor
  · intro h
    rw [hlt]
    unfold pm_lt
    rw [decide_eq_true h]
    rfl
  · intro h
    constructor
    · rw [hlt]
      have h1 : ¬ R.getD i 0 < L.getD i 0 := by omega
      have h2 : ¬ R.getD i 0 = L.getD i 0 := by omega
      unfold pm_lt
      rw [decide_eq_false h1, decide_eq_false h2]
      rfl
    · intro q
      rw [q] at h
      omega
section RS3
variable {d : pd_D}
def rs_c (d : pd_D) (A : List Nat × List (List Nat)) (σ : sf_St) : Prop := σ 0 13 = nI A.2.length ∧ ∀ j, j < A.2.length → σ 11 j = nI (pd_pk (A.2.getD j []))
def rs_L (d : pd_D) (A : List Nat × List (List Nat)) : Prop := A.2 ≠ [] → A.1.length = pd_n d ∧ ∀ i, A.1.getD i 0 < 2 ^ 31
def SI (d : pd_D) (A : List Nat × List (List Nat)) (p : List Nat) (σ : sf_St) : Prop := mD d σ ∧ mA d p σ ∧ rs_c d A σ ∧ rs_L d A ∧ (A.2 ≠ [] → ∀ i, i < pd_n d → σ 10 i = nI (A.1.getD i 0))
def rs_f (σ τ : sf_St) : Prop := (∀ c, c ≠ 0 → c ≠ 8 → c ≠ 10 → c ≠ 11 → τ c = σ c) ∧ ∀ j, j ≠ 13 → τ 0 j = σ 0 j
theorem rs_f_r (σ : sf_St) : rs_f σ σ := ⟨fun _ _ _ _ _ => rfl, fun _ _ => rfl⟩
theorem rs_f_t {σ τ υ : sf_St} (h1 : rs_f σ τ) (h2 : rs_f τ υ) : rs_f σ υ := ⟨fun c a1 a2 a3 a4 => (h2.1 c a1 a2 a3 a4).trans (h1.1 c a1 a2 a3 a4), fun j hj => (h2.2 j hj).trans (h1.2 j hj)⟩
def pd_R (d : pd_D) (p : List Nat) : List Nat := pm_rows (pd_row d) [] p
theorem pd_R_at {p : List Nat} (hp : pN d p) {i : Nat} (hi : i < pd_n d) : (pd_R d p).getD i 0 = pd_row d (p.take i) (p.getD i 0) := by
  unfold pd_R
  rw [pm_rows_at _ _ _ _ (by rw [hp.2]; exact hi), List.nil_append]
theorem pd_R_len {p : List Nat} (hp : pN d p) : (pd_R d p).length = pd_n d := by
  unfold pd_R
  rw [pm_rows_len, hp.2]
theorem pd_or3 (h : pd_W d) (a b : Nat) : pd_or d a b ≤ 3 := by
  unfold pd_or pd_og
  cases hbo : pd_bo d a b with
  | none => simp
  | some j => have := (h.2.2.1 j (pd_bo_some hbo).1).2.2.2.2.1; simpa using this
theorem pd_sum4 (h : pd_W d) (a : Nat) (g : Nat → Nat) : ∀ m, pd_sum (fun j => pd_or d a (g j) * 4 ^ j) m < 4 ^ m := by
  intro m
  induction m with
  | zero => show 0 < 1; decide
  | succ m ih =>
    have h3 := pd_or3 h a (g m)
    show pd_sum (fun j => pd_or d a (g j) * 4 ^ j) m + pd_or d a (g m) * 4 ^ m < _
    have : pd_or d a (g m) * 4 ^ m ≤ 3 * 4 ^ m := Nat.mul_le_mul_right _ h3
    rw [Nat.pow_succ]
    omega
theorem pd_row_lt (h : pd_W d) {pre : List Nat} {a : Nat} (ha : a < pd_n d) (hl : pre.length ≤ 7) : pd_row d pre a < 3000000 := by
  have h1 := (h.2.1 a ha).1
  have h2 := pd_v_le (pd_e d a)
  have h3 : pd_lf d a ≤ 4 := by unfold pd_lf; omega
  have h4 := pd_sum4 h a (fun j => pre.getD j 0) pre.length
  have h5 : 4 ^ pre.length ≤ 4 ^ 7 := Nat.pow_le_pow_right (by decide) hl
  have h6 : (4 : Nat) ^ 7 = 16384 := by decide
  unfold pd_row pd_hd
  omega
theorem pd_R_lt (h : pd_W d) {p : List Nat} (hp : pN d p) (i : Nat) : (pd_R d p).getD i 0 < 2 ^ 31 := by
  have h7 := h.1.1
  by_cases hi : i < pd_n d
  · rw [pd_R_at hp hi]
    have := pd_row_lt h (pre := p.take i) (pN_getD hp hi) (by rw [List.length_take]; omega)
    omega
  · rw [List.getD_eq_getElem?_getD, List.getElem?_eq_none (by rw [pd_R_len hp]; omega)]
    decide
/-- what stands after a numbering was seen -/
def rs_J (d : pd_D) (A : List Nat × List (List Nat)) (p : List Nat) (i : Nat) (so : Int) (σ : sf_St) : Prop := mD d σ ∧ mA d p σ ∧ rs_c d A σ ∧
  ((so = -1 ∧ (A.2 = [] ∨ pm_lt (pd_R d p) A.1 = true) ∧ ∀ j, j < i → σ 10 j = nI ((pd_R d p).getD j 0)) ∨
   (so = 0 ∧ A.2 ≠ [] ∧ (∀ j, j < i → (pd_R d p).getD j 0 = A.1.getD j 0) ∧ ∀ j, j < pd_n d → σ 10 j = nI (A.1.getD j 0)) ∨
   (so = 1 ∧ A.2 ≠ [] ∧ pm_lt (pd_R d p) A.1 = false ∧ pd_R d p ≠ A.1 ∧ ∀ j, j < pd_n d → σ 10 j = nI (A.1.getD j 0)))
def rs_ex (Pr : sf_St → Int32 → Prop) (u1 : Int32) (σ : sf_St) : Prop :=
  if (0 : Int32) ≤ u1 then (∀ τ11 : sf_St, τ11 = sf_up σ 0 13 (σ 0 13) → (if (1 : Int32) ≤ u1 then (∃ (r15 : Int32) (τ14 : sf_St), R_X7_nextOrder τ11 r15 τ14 ∧ (Pr τ14 r15)) else (∃ (r18 : Int32) (τ17 : sf_St), R_X7_packed τ11 r18 τ17 ∧ (vp_in (τ11 0 13) 5040 ∧ (∀ τ20 : sf_St, τ20 = sf_up τ17 11 (sf_ix (τ11 0 13)) r18 → (∀ τ21 : sf_St, τ21 = sf_up τ20 0 13 ((τ20 0 13) + (1 : Int32)) → (∃ (r24 : Int32) (τ23 : sf_St), R_X7_nextOrder τ21 r24 τ23 ∧ (Pr τ23 r24)))))))) else (∀ τ25 : sf_St, τ25 = sf_up σ 0 13 (0 : Int32) → (if (1 : Int32) ≤ u1 then (∃ (r29 : Int32) (τ28 : sf_St), R_X7_nextOrder τ25 r29 τ28 ∧ (Pr τ28 r29)) else (∃ (r32 : Int32) (τ31 : sf_St), R_X7_packed τ25 r32 τ31 ∧ (vp_in (τ25 0 13) 5040 ∧ (∀ τ34 : sf_St, τ34 = sf_up τ31 11 (sf_ix (τ25 0 13)) r32 → (∀ τ35 : sf_St, τ35 = sf_up τ34 0 13 ((τ34 0 13) + (1 : Int32)) → (∃ (r38 : Int32) (τ37 : sf_St), R_X7_nextOrder τ35 r38 τ37 ∧ (Pr τ37 r38))))))))
theorem sp_exit (h : pd_W d) {A : List Nat × List (List Nat)} {p : List Nat} (hp : pN d p) (hA : rs_L d A) (h5 : A.2.length < 5040) {so : Int} {σ : sf_St} {i : Nat} (hi : i = pd_n d ∨ so = 1) (hJ : rs_J d A p i so σ) :
    ∃ σ3, SI d (pm_rst (pd_row d) A p) p σ3 ∧ rs_f σ σ3 ∧ ∀ (Pr : sf_St → Int32 → Prop) r τ', R_X7_nextOrder σ3 r τ' → Pr τ' r → rs_ex Pr (iI so) σ := by
  obtain ⟨hm, hAp, ⟨c1, c2⟩, hcase⟩ := hJ
  rcases hcase with ⟨rfl, hlt, hrow⟩ | ⟨rfl, hne, heq, hrow⟩ | ⟨rfl, hne, hlt, hneq, hrow⟩
  · have hi' : i = pd_n d := by
      rcases hi with hi | hi
      · exact hi
      · exact absurd hi (by decide)
    subst hi'
    have er : pm_rst (pd_row d) A p = (pd_R d p, [p]) := by
      unfold pm_rst
      by_cases he : A.2 = []
      · rw [if_pos he]; rfl
      · have hlt' : pm_lt (pm_rows (pd_row d) [] p) A.1 = true := hlt.resolve_left he
        rw [if_neg he, if_pos hlt']; rfl
    rw [er]
    refine ⟨sf_up (sf_up (sf_up σ 0 13 0) 11 0 (nI (pd_pk p))) 0 13 1, ⟨hm, hAp, ⟨rfl, fun j hj => ?_⟩, fun _ => ⟨pd_R_len hp, pd_R_lt h hp⟩, fun _ => hrow⟩, ⟨fun c a1 a2 a3 a4 => ?_, fun j hj => ?_⟩, fun Pr r τ' hn hP => ?_⟩
    · have : j = 0 := by simp at hj; omega
      subst this
      rfl
    · rw [sf_up_ne _ _ _ a1, sf_up_ne _ _ _ a4, sf_up_ne _ _ _ a1]
    · rw [sf_up_at, if_pos rfl, if_neg hj, sf_up_ne _ _ _ (by decide), sf_up_at, if_pos rfl, if_neg hj]
    · unfold rs_ex
      rw [if_neg (by decide)]
      intro τ1 h1
      subst h1
      rw [if_neg (by decide)]
      refine ⟨_, _, sp_packed h (d := d) (π := p) (σ := sf_up σ 0 13 0) hm hp hAp, ?_⟩
      have e0 : sf_up σ 0 13 0 0 13 = 0 := by rw [sf_up_at, if_pos rfl, if_pos rfl]
      rw [e0]
      refine ⟨sp_in (a := 0) (by decide) (by decide), ?_⟩
      intro τ2 h2 τ3 h3
      subst h2
      subst h3
      exact ⟨r, τ', hn, hP⟩
  · have hi' : i = pd_n d := by
      rcases hi with hi | hi
      · exact hi
      · exact absurd hi (by decide)
    subst hi'
    have hRL : pd_R d p = A.1 := ls_ext (by rw [pd_R_len hp, (hA hne).1]) (fun j hj => heq j (by rw [pd_R_len hp] at hj; exact hj))
    have er : pm_rst (pd_row d) A p = (A.1, A.2 ++ [p]) := by
      have e1 : pm_rows (pd_row d) [] p = A.1 := hRL
      unfold pm_rst
      rw [if_neg hne, e1, if_neg (by rw [pm_lt_irr]; decide), if_pos rfl]
    rw [er]
    refine ⟨sf_up (sf_up σ 11 A.2.length (nI (pd_pk p))) 0 13 (nI (A.2.length + 1)), ⟨hm, hAp, ⟨?_, fun j hj => ?_⟩, fun _ => hA hne, fun _ => hrow⟩, ⟨fun c a1 a2 a3 a4 => ?_, fun j hj => ?_⟩, fun Pr r τ' hn hP => ?_⟩
    · rw [sf_up_at, if_pos rfl, if_pos rfl, List.length_append]; rfl
    · have hj' : j < A.2.length + 1 := by rw [List.length_append] at hj; exact hj
      show (if j = A.2.length then nI (pd_pk p) else σ 11 j) = _
      by_cases hjl : j = A.2.length
      · subst hjl
        rw [if_pos rfl]
        congr 2
        simp [List.getD_eq_getElem?_getD]
      · rw [if_neg hjl, c2 j (by omega)]
        congr 2
        simp [List.getD_eq_getElem?_getD, List.getElem?_append_left (show j < A.2.length by omega)]
    · rw [sf_up_ne _ _ _ a1, sf_up_ne _ _ _ a4]
    · rw [sf_up_at, if_pos rfl, if_neg hj, sf_up_ne _ _ _ (by decide)]
    · unfold rs_ex
      rw [if_pos (by decide), sf_up_self]
      intro τ1 h1
      rw [h1]
      rw [if_neg (by decide)]
      refine ⟨_, _, sp_packed h hm hp hAp, ?_⟩
      rw [c1, sp_ix (by omega)]
      refine ⟨sp_in h5 (by decide), ?_⟩
      intro τ2 h2 τ3 h3
      subst h2
      subst h3
      have e0 : sf_up σ 11 A.2.length (nI (pd_pk p)) 0 13 = nI A.2.length := c1
      rw [e0, sp_inc]
      exact ⟨r, τ', hn, hP⟩
  · have er : pm_rst (pd_row d) A p = A := by
      have hlt' : pm_lt (pm_rows (pd_row d) [] p) A.1 = false := hlt
      unfold pm_rst
      have hneq' : ¬ pm_rows (pd_row d) [] p = A.1 := hneq
      rw [if_neg hne, if_neg (by rw [hlt']; decide), if_neg hneq']
    rw [er]
    refine ⟨σ, ⟨hm, hAp, ⟨c1, c2⟩, hA, fun _ => hrow⟩, rs_f_r σ, fun Pr r τ' hn hP => ?_⟩
    unfold rs_ex
    rw [if_pos (by decide), sf_up_self]
    intro τ1 h1
    rw [h1]
    rw [if_pos (by decide)]
    exact ⟨r, τ', hn, hP⟩
end RS3
