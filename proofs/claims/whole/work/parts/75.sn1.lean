/-! senses of centres -/
theorem iI_add (a b : Int) : iI a + iI b = iI (a + b) := (Int32.ofInt_add a b).symm
theorem iI_sub (a b : Int) : iI a - iI b = iI (a - b) := (Int32.ofInt_sub a b).symm
theorem iI_mul (a b : Int) : iI a * iI b = iI (a * b) := (Int32.ofInt_mul a b).symm
theorem iI_neg (a : Int) : - iI a = iI (- a) := (Int32.ofInt_neg a).symm
theorem iI_0 : (0 : Int32) = iI 0 := rfl
theorem iI_1 : (1 : Int32) = iI 1 := rfl
theorem iI_m1 : (-1 : Int32) = iI (-1) := by decide
theorem iI_le {a b : Int} (ha : a.natAbs < 2 ^ 31) (hb : b.natAbs < 2 ^ 31) : (iI a ≤ iI b) ↔ a ≤ b := by
  rw [Int32.le_iff_toInt_le, iI_toInt (by omega) (by omega), iI_toInt (by omega) (by omega)]
theorem iI_eq {a b : Int} (ha : a.natAbs < 2 ^ 31) (hb : b.natAbs < 2 ^ 31) : (iI a = iI b) ↔ a = b := by
  rw [← Int32.toInt_inj, iI_toInt (by omega) (by omega), iI_toInt (by omega) (by omega)]
theorem iI_lt {a b : Int} (ha : a.natAbs < 2 ^ 31) (hb : b.natAbs < 2 ^ 31) : (iI a < iI b) ↔ a < b := by
  rw [Int32.lt_iff_toInt_lt, iI_toInt (by omega) (by omega), iI_toInt (by omega) (by omega)]
theorem iz_mul {a b : Int} {A B : Nat} (ha : a.natAbs ≤ A) (hb : b.natAbs ≤ B) : (a * b).natAbs ≤ A * B := by
  rw [Int.natAbs_mul]; exact Nat.mul_le_mul ha hb
theorem iz_d3 {a b c d e f g h i : Int} (ha : a.natAbs ≤ 2000) (hb : b.natAbs ≤ 2000) (hc : c.natAbs ≤ 2) (hd : d.natAbs ≤ 2000) (he : e.natAbs ≤ 2000) (hf : f.natAbs ≤ 2) (hg : g.natAbs ≤ 2000) (hh : h.natAbs ≤ 2000) (hi : i.natAbs ≤ 2) : (ps_d3 a b c d e f g h i).natAbs < 2 ^ 31 := by
  unfold ps_d3
  have p1 := iz_mul he hi
  have p2 := iz_mul hf hh
  have p3 := iz_mul hd hi
  have p4 := iz_mul hf hg
  have p5 := iz_mul hd hh
  have p6 := iz_mul he hg
  have s1 : (e * i - f * h).natAbs ≤ 8000 := by omega
  have s2 : (d * i - f * g).natAbs ≤ 8000 := by omega
  have s3 : (d * h - e * g).natAbs ≤ 8000000 := by omega
  have t1 := iz_mul ha s1
  have t2 := iz_mul hb s2
  have t3 := iz_mul hc s3
  omega
theorem sp_sign (σ : sf_St) {z : Int} (h : z.natAbs < 2 ^ 31) : R_X6_sign σ (iI z) (iI (Int.sign z)) σ := by
  unfold R_X6_sign
  rw [iI_0]
  by_cases h1 : z ≤ 0
  · rw [if_pos ((iI_le h (by decide)).mpr h1)]
    by_cases h2 : 0 ≤ z
    · rw [if_pos ((iI_le (by decide) h).mpr h2)]
      have : z = 0 := by omega
      subst this
      exact ⟨rfl, rfl⟩
    · rw [if_neg (fun q => h2 ((iI_le (by decide) h).mp q))]
      rw [Int.sign_eq_neg_one_of_neg (by omega)]
      exact ⟨iI_m1.symm, rfl⟩
  · rw [if_neg (fun q => h1 ((iI_le h (by decide)).mp q))]
    rw [Int.sign_eq_one_of_pos (by omega)]
    exact ⟨rfl, rfl⟩
theorem sp_mSign (σ : sf_St) {z : Int} (h : z.natAbs < 2 ^ 31) : R_X7_sign σ (iI z) (iI (Int.sign z)) σ := sp_sign σ h
section SN1
variable {d : pd_D} {σ : sf_St}
theorem pd_z_le (d : pd_D) (a p : Nat) : (pd_z d a p).natAbs ≤ 1 := by
  unfold pd_z
  split
  · split
    · split
      · decide
      · split <;> decide
    · decide
  · decide
theorem pd_bo_self (h : pd_W d) (a : Nat) : pd_bo d a a = none := by
  cases hb : pd_bo d a a with
  | none => rfl
  | some k =>
    obtain ⟨h1, h2⟩ := pd_bo_some hb
    obtain ⟨-, -, w, -⟩ := h.2.2.1 k h1
    simp only [pd_j, Bool.or_eq_true, Bool.and_eq_true, beq_iff_eq] at h2
    omega
theorem sp_height (h : pd_W d) (hc : cD d σ) {a p : Nat} (ha : a < 7) (hp : p < 7) : R_X0_height σ (nI a) (nI p) (iI (pd_z d a p)) σ := by
  have h9 := h.1.2
  unfold R_X0_height
  have hab := sp_areBonded h hc ha hp
  unfold pd_z
  cases hb : pd_bo d a p with
  | none =>
    have e1 : pd_lk d a p = 0 := by unfold pd_lk; rw [hb]
    rw [e1, if_pos rfl] at hab
    exact ⟨0, σ, hab, by rw [if_pos rfl]; exact ⟨rfl, rfl⟩⟩
  | some k =>
    have e1 : pd_lk d a p = k + 1 := by unfold pd_lk; rw [hb]
    obtain ⟨hk, hj⟩ := pd_bo_some hb
    obtain ⟨w1, w2, w3, w4, w5, w6⟩ := h.2.2.1 k hk
    obtain ⟨q1, q2, q3, q4⟩ := hc.2.2.1 k hk
    rw [e1, if_neg (by omega)] at hab
    refine ⟨1, σ, hab, ?_⟩
    rw [if_neg (by decide)]
    refine ⟨_, σ, sp_bondOf hc ha hp, ?_⟩
    rw [e1, nI_pred, sp_ix (by omega), q1, q4]
    have hin : vp_in (nI k) 9 := sp_in (by omega) (by decide)
    have h7 := h.1.1
    refine ⟨hin, ?_⟩
    dsimp only
    by_cases hf : pd_f d k = a
    · rw [if_pos (by rw [hf]), if_pos hf]
      refine ⟨hin, ?_⟩
      have hm : pd_m d k = 0 ∨ pd_m d k = 1 ∨ pd_m d k = 2 := by omega
      rcases hm with hm | hm | hm
      · rw [hm, if_pos (by decide), if_neg (by decide), if_neg (by decide)]
        exact ⟨rfl, rfl⟩
      · rw [hm, if_neg (by decide), if_pos (by decide), if_pos (by decide)]
        exact ⟨hin, rfl, rfl⟩
      · rw [hm, if_neg (by decide), if_neg (by decide), if_neg (by decide), if_pos (by decide)]
        exact ⟨hin, by decide, rfl⟩
    · rw [if_neg (fun q => hf ((nI_eq (by omega) (by omega)).mp q)), if_neg hf]
      exact ⟨rfl, rfl⟩
theorem sp_determinant (h : pd_W d) (hc : cD d σ) {a f p q r : Nat} (ha : a < pd_n d) (hf : f < pd_n d) (hp : p < pd_n d) (hq : q < pd_n d) (hr : r < pd_n d) (e0 : σ 21 0 = nI p) (e1 : σ 21 1 = nI q) (e2 : σ 21 2 = nI r) :
    R_X4_determinant σ (nI a) (nI f) (iI (ps_d3 (pd_x d p - pd_x d f) (pd_y d p - pd_y d f) (pd_z d a p - pd_z d a f) (pd_x d q - pd_x d f) (pd_y d q - pd_y d f) (pd_z d a q - pd_z d a f) (pd_x d r - pd_x d f) (pd_y d r - pd_y d f) (pd_z d a r - pd_z d a f))) σ := by
  have h7 := h.1.1
  have i : ∀ {x}, x < pd_n d → vp_in (nI x) 7 := fun hx => sp_in (by omega) (by decide)
  have ix : ∀ {x}, x < pd_n d → sf_ix (nI x) = x := fun hx => sp_ix (by omega)
  have z0 : sf_ix (0 : Int32) = 0 := rfl
  have z1 : sf_ix (1 : Int32) = 1 := rfl
  have z2 : sf_ix (2 : Int32) = 2 := rfl
  unfold R_X4_determinant
  simp only [forall_eq]
  refine ⟨i hf, i hf, _, σ, sp_height h hc (by omega) (by omega), ?_⟩
  rw [z0, e0]
  refine ⟨i hp, i hp, _, σ, sp_height h hc (by omega) (by omega), ?_⟩
  rw [z1, e1]
  refine ⟨i hq, i hq, _, σ, sp_height h hc (by omega) (by omega), ?_⟩
  rw [z2, e2]
  refine ⟨i hr, i hr, _, σ, sp_height h hc (by omega) (by omega), ?_, rfl⟩
  rw [ix hp, ix hq, ix hr, ix hf, (hc.2.1 p hp).2.1, (hc.2.1 p hp).2.2, (hc.2.1 q hq).2.1, (hc.2.1 q hq).2.2, (hc.2.1 r hr).2.1, (hc.2.1 r hr).2.2, (hc.2.1 f hf).2.1, (hc.2.1 f hf).2.2]
  show iI _ = _
  change _ = (iI (pd_x d p) - iI (pd_x d f)) * ((iI (pd_y d q) - iI (pd_y d f)) * (iI (pd_z d a r) - iI (pd_z d a f)) - (iI (pd_z d a q) - iI (pd_z d a f)) * (iI (pd_y d r) - iI (pd_y d f))) - (iI (pd_y d p) - iI (pd_y d f)) * ((iI (pd_x d q) - iI (pd_x d f)) * (iI (pd_z d a r) - iI (pd_z d a f)) - (iI (pd_z d a q) - iI (pd_z d a f)) * (iI (pd_x d r) - iI (pd_x d f))) + (iI (pd_z d a p) - iI (pd_z d a f)) * ((iI (pd_x d q) - iI (pd_x d f)) * (iI (pd_y d r) - iI (pd_y d f)) - (iI (pd_y d q) - iI (pd_y d f)) * (iI (pd_x d r) - iI (pd_x d f)))
  simp only [iI_add, iI_sub, iI_mul]
  rfl
end SN1
