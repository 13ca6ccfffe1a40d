/-! senses in the order of a numbering: the own senses, turned by the order of the neighbours -/
section SN6
variable {d : pd_D} {σ : sf_St}
theorem ps_s_pm (num : Nat → Nat) (x y : Nat) : ps_s num x y = 1 ∨ ps_s num x y = -1 := by
  unfold ps_s
  split
  · exact Or.inr rfl
  · exact Or.inl rfl
theorem pm_mul {u v : Int} (hu : u = 1 ∨ u = -1) (hv : v = 1 ∨ v = -1) : u * v = 1 ∨ u * v = -1 := by
  rcases hu with rfl | rfl <;> rcases hv with rfl | rfl <;> simp
theorem ps_pr_pm (num : Nat → Nat) (x : Nat) : ∀ L, ps_pr num x L = 1 ∨ ps_pr num x L = -1 := by
  intro L
  induction L with
  | nil => exact Or.inl rfl
  | cons y L ih => exact pm_mul (ps_s_pm num x y) ih
theorem ps_sg_pm (num : Nat → Nat) : ∀ L, ps_sg num L = 1 ∨ ps_sg num L = -1 := by
  intro L
  induction L with
  | nil => exact Or.inl rfl
  | cons x L ih => exact pm_mul (ps_pr_pm num x L) ih
theorem pm_sign {u : Int} (hu : u = 1 ∨ u = -1) : Int.sign u = u := by
  rcases hu with rfl | rfl <;> rfl
theorem pd_cs_pi {π : List Nat} (hp : pN d π) {a : Nat} : (if pd_ce d a = true then pd_cL d a (π.filter (pd_P d a (pd_n d))) else 0) = pd_cs d a * pd_os d (pd_num π) a (pd_n d) := by
  unfold pd_cs pd_os
  by_cases hce : pd_ce d a = true
  · rw [if_pos hce, if_pos hce, pd_nl_st hp]
    unfold pd_cL
    have e := ps_st_D (num := pd_num π) (ps_D_anti (fun p => pd_x d p - pd_x d a) (fun p => pd_y d p - pd_y d a) (pd_z d a)) (pd_nl d a (pd_n d)) [] (pd_nl_nodup a _) (fun x hx y hy => pN_inj hp (pd_nl_lt hx) (pd_nl_lt hy))
    simp only [List.nil_append] at e
    rw [e, Int.sign_mul, pm_sign (ps_sg_pm _ _), Int.mul_comm]
  · rw [if_neg hce, if_neg hce, Int.zero_mul]
theorem pd_sd_swap (d : pd_D) (a b p : Nat) : pd_sd d b a p = - pd_sd d a b p := by
  unfold pd_sd
  rw [← Int.sign_neg]
  congr 1
  grind
theorem pd_en_swap (d : pd_D) (a b : Nat) (L : List Nat) : pd_en d b a L = - pd_en d a b L := by
  match L with
  | [] => rfl
  | [p] => exact pd_sd_swap d a b p
  | [p, q] =>
    show (if pd_sd d b a p = 0 ∨ pd_sd d b a q = 0 ∨ pd_sd d b a p = pd_sd d b a q then 0 else pd_sd d b a p) = - (if pd_sd d a b p = 0 ∨ pd_sd d a b q = 0 ∨ pd_sd d a b p = pd_sd d a b q then 0 else pd_sd d a b p)
    rw [pd_sd_swap, pd_sd_swap d a b q]
    by_cases h : pd_sd d a b p = 0 ∨ pd_sd d a b q = 0 ∨ pd_sd d a b p = pd_sd d a b q
    · rw [if_pos h, if_pos (by omega)]; rfl
    · rw [if_neg h, if_neg (by omega)]
  | _ :: _ :: _ :: _ => rfl
theorem pd_en_sg (d : pd_D) (a b : Nat) (num : Nat → Nat) (L : List Nat) (h2 : L.length ≤ 2) : pd_en d a b (ps_st num L) = pd_en d a b L * ps_sg num L := by
  match L, h2 with
  | [], _ => rfl
  | [p], _ => show pd_sd d a b p = pd_sd d a b p * (1 * 1); simp
  | [p, q], _ =>
    have e : ps_st num [p, q] = if num q < num p then [q, p] else [p, q] := rfl
    have e2 : ps_sg num [p, q] = ps_s num p q := by show ps_s num p q * 1 * (1 * 1) = _; simp
    rw [e, e2]
    unfold ps_s
    by_cases hlt : num q < num p
    · rw [if_pos hlt, if_pos hlt]
      show (if pd_sd d a b q = 0 ∨ pd_sd d a b p = 0 ∨ pd_sd d a b q = pd_sd d a b p then 0 else pd_sd d a b q) = (if pd_sd d a b p = 0 ∨ pd_sd d a b q = 0 ∨ pd_sd d a b p = pd_sd d a b q then 0 else pd_sd d a b p) * -1
      rcases pd_sd_3 d a b p with h | h | h <;> rcases pd_sd_3 d a b q with h' | h' | h' <;> rw [h, h'] <;> decide
    · rw [if_neg hlt, if_neg hlt, Int.mul_one]
theorem pd_hp2_swap (d : pd_D) (π : List Nat) (A B : Nat) : pd_hp2 d π B A = pd_hp2 d π A B := by
  unfold pd_hp2
  rw [pd_en_swap d A B, pd_en_swap d A B (π.filter (pd_P d A B)), Int.neg_mul_neg, Int.mul_comm]
theorem pd_hp2_own (h : pd_W d) {k : Nat} (hk : k < pd_b d) (hh : pd_hi d k = true) : pd_hs d k = pd_hp2 d (List.range (pd_n d)) (pd_f d k) (pd_s d k) := by
  rw [← pd_hp_own h hk]
  unfold pd_hp
  rw [if_pos hh]
  split
  · rfl
  · exact pd_hp2_swap d _ _ _
theorem pd_hp_pi (h : pd_W d) {π : List Nat} (hp : pN d π) {k : Nat} (hk : k < pd_b d) : pd_hp d π k = pd_hs d k * pd_os d (pd_num π) (pd_f d k) (pd_s d k) * pd_os d (pd_num π) (pd_s d k) (pd_f d k) := by
  by_cases hh : pd_hi d k = true
  · rw [pd_hp2_own h hk hh]
    obtain ⟨⟨-, l1⟩, -, l2⟩ := pd_hi_len h hk hh
    have e : pd_hp d π k = pd_hp2 d π (pd_f d k) (pd_s d k) := by
      unfold pd_hp
      rw [if_pos hh]
      split
      · rfl
      · exact pd_hp2_swap d _ _ _
    rw [e]
    unfold pd_hp2 pd_os
    rw [pd_nl_st hp, pd_nl_st hp, pd_en_sg d _ _ _ _ l1, pd_en_sg d _ _ _ _ l2]
    have e1 : (List.range (pd_n d)).filter (pd_P d (pd_f d k) (pd_s d k)) = pd_nl d (pd_f d k) (pd_s d k) := rfl
    have e2 : (List.range (pd_n d)).filter (pd_P d (pd_s d k) (pd_f d k)) = pd_nl d (pd_s d k) (pd_f d k) := rfl
    rw [e1, e2]
    grind
  · have e : pd_hp d π k = 0 := by unfold pd_hp; rw [if_neg hh]
    have e2 : pd_hs d k = 0 := by unfold pd_hs; rw [if_neg hh]
    rw [e, e2]
    simp
end SN6
