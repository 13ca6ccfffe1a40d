/-! the reference: a row, a packed numbering -/
theorem nI_or (v w : Nat) : nI v ||| nI w = nI (v ||| w) := by
  apply Int32.toBitVec_inj.mp
  show BitVec.ofNat 32 v ||| BitVec.ofNat 32 w = BitVec.ofNat 32 (v ||| w)
  apply BitVec.eq_of_toNat_eq
  rw [BitVec.toNat_or, BitVec.toNat_ofNat, BitVec.toNat_ofNat, BitVec.toNat_ofNat, Nat.or_mod_two_pow]
theorem pk_take (π : List Nat) {j i : Nat} (h : j < i) : (π.take i).getD j 0 = π.getD j 0 := by
  simp [List.getD_eq_getElem?_getD, List.getElem?_take, h]
theorem pd_pk_snoc (a : Nat) : ∀ l : List Nat, pd_pk (l ++ [a]) = pd_pk l + 8 ^ l.length * a := by
  intro l
  induction l with
  | nil => simp [pd_pk]
  | cons x l ih =>
    have e1 : pd_pk (x :: l ++ [a]) = x + 8 * pd_pk (l ++ [a]) := rfl
    have e2 : pd_pk (x :: l) = x + 8 * pd_pk l := rfl
    rw [e1, e2, ih, List.length_cons, Nat.pow_succ]
    grind
theorem pd_pk_lt : ∀ l : List Nat, (∀ a ∈ l, a < 8) → pd_pk l < 8 ^ l.length := by
  intro l
  induction l with
  | nil => intro _; decide
  | cons x l ih =>
    intro h
    have h1 := ih (fun a ha => h a (List.mem_cons_of_mem _ ha))
    have h2 := h x List.mem_cons_self
    have e2 : pd_pk (x :: l) = x + 8 * pd_pk l := rfl
    rw [e2, List.length_cons, Nat.pow_succ]
    omega
theorem pd_pk_at : ∀ (l : List Nat) (i : Nat), (∀ a ∈ l, a < 8) → pd_pk l / 8 ^ i % 8 = l.getD i 0 := by
  intro l
  induction l with
  | nil => intro i _; simp [pd_pk]
  | cons x l ih =>
    intro i h
    have h2 := h x List.mem_cons_self
    have e2 : pd_pk (x :: l) = x + 8 * pd_pk l := rfl
    rw [e2]
    cases i with
    | zero => rw [Nat.pow_zero, Nat.div_one]; show _ = x; omega
    | succ i =>
      have h1 := ih i (fun a ha => h a (List.mem_cons_of_mem _ ha))
      rw [Nat.pow_succ, Nat.mul_comm (8 ^ i) 8, ← Nat.div_div_eq_div_mul]
      have e3 : (x + 8 * pd_pk l) / 8 = pd_pk l := by omega
      rw [e3, h1]
      rfl
section RS1
variable {d : pd_D} {σ : sf_St} {π : List Nat}
def mA (d : pd_D) (π : List Nat) (σ : sf_St) : Prop := ∀ i, i < pd_n d → σ 8 i = nI (π.getD i 0)
theorem sn_4 : ∀ j, j < 7 → 3 * 2 ^ (2 * j) < 2 ^ 32 := by decide
theorem sp_mRowOf_1 (h : pd_W d) (hm : mD d σ) (hp : pN d π) (hN : mA d π σ) {i : Nat} (hi : i < pd_n d) (H : Nat) : ∀ m k, k + m = i →
    Rn_R_X7_rowOf 1 σ (nI i) (nI (H + pd_sum (fun j => pd_or d (π.getD i 0) ((π.take i).getD j 0) * 4 ^ j) k)) (nI k) (nI (H + pd_sum (fun j => pd_or d (π.getD i 0) ((π.take i).getD j 0) * 4 ^ j) i)) σ := by
  have h7 := h.1.1
  have h9 := h.1.2
  intro m
  induction m with
  | zero =>
    intro k hk
    have hk' : k = i := by omega
    subst hk'
    apply ru_R_X7_rowOf_1
    unfold tr_R_X7_rowOf_1
    rw [if_pos (nI_le (by omega) (by omega))]
    exact ⟨rfl, rfl⟩
  | succ m ih =>
    intro k hk
    have ih' := ih (k + 1) (by omega)
    have es : pd_sum (fun j => pd_or d (π.getD i 0) ((π.take i).getD j 0) * 4 ^ j) (k + 1) = pd_sum (fun j => pd_or d (π.getD i 0) ((π.take i).getD j 0) * 4 ^ j) k + pd_or d (π.getD i 0) ((π.take i).getD k 0) * 4 ^ k := rfl
    rw [es, pk_take π (show k < i by omega), ← Nat.add_assoc] at ih'
    generalize H + pd_sum (fun j => pd_or d (π.getD i 0) ((π.take i).getD j 0) * 4 ^ j) k = c at *
    have g1 := pN_getD hp hi
    have g2 := pN_getD hp (show k < pd_n d by omega)
    have hbo := sp_mBondOf h hm (a := π.getD i 0) (b := π.getD k 0) (by omega) (by omega)
    apply ru_R_X7_rowOf_1
    unfold tr_R_X7_rowOf_1
    rw [if_neg (nI_ge (by omega) (by omega)), sp_ix (by omega), sp_ix (by omega), hN i hi, hN k (by omega)]
    refine ⟨sp_in (by omega) (by decide), sp_in (by omega) (by decide), ?_⟩
    refine ⟨_, σ, hbo, ?_⟩
    cases hb : pd_bo d (π.getD i 0) (π.getD k 0) with
    | none =>
      have e1 : pd_bi d (π.getD i 0) (π.getD k 0) = -1 := by unfold pd_bi; rw [hb]
      have e2 : pd_or d (π.getD i 0) (π.getD k 0) = 0 := by unfold pd_or pd_og; rw [hb]
      rw [e2, Nat.zero_mul] at ih'
      rw [e1, if_neg (by decide)]
      intro y hy z hz
      rw [sp_inc] at hz
      have hy' : y = nI (c + 0) := by rw [hy]; exact nI_add c 0
      subst hy'
      subst hz
      exact ih'
    | some j =>
      have e1 : pd_bi d (π.getD i 0) (π.getD k 0) = nI j := by unfold pd_bi; rw [hb]
      have e2 : pd_or d (π.getD i 0) (π.getD k 0) = pd_o d j := by unfold pd_or pd_og; rw [hb]
      have hj := (pd_bo_some hb).1
      obtain ⟨w1, w2, w3, w4, w5, w6⟩ := h.2.2.1 j hj
      rw [e2] at ih'
      rw [e1, if_pos (nI_pos' (by omega)), sp_ix (by omega), (hm.2.2 j hj).2.2.1]
      refine ⟨sp_in (by omega) (by decide), ?_⟩
      intro y hy z hz
      rw [sp_inc] at hz
      have e3 : (2 : Int32) * nI k = nI (2 * k) := pk_mul 2 k
      have h4 := sn_4 k (by omega)
      have hle : pd_o d j * 2 ^ (2 * k) ≤ 3 * 2 ^ (2 * k) := Nat.mul_le_mul_right _ w5
      rw [e3, pk_shlN _ (2 * k) (sn_sm (2 * k) (by omega)) (by omega), nI_add] at hy
      have e4 : 2 ^ (2 * k) = 4 ^ k := by rw [Nat.pow_mul]
      rw [e4] at hy
      subst hy
      subst hz
      exact ih'
theorem sp_mRowOf (h : pd_W d) (hm : mD d σ) (hp : pN d π) (hN : mA d π σ) {i : Nat} (hi : i < pd_n d) : R_X7_rowOf σ (nI i) (nI (pd_row d (π.take i) (π.getD i 0))) σ := by
  have h7 := h.1.1
  have g1 := pN_getD hp hi
  have hl := sp_mLeft h hm g1
  have e : (π.take i).length = i := by rw [List.length_take, hp.2]; omega
  unfold R_X7_rowOf
  apply ru_R_X7_rowOf_0
  unfold tr_R_X7_rowOf_0
  rw [sp_ix (by omega), hN i hi, sp_ix (by omega), (hm.2.1 _ g1).1]
  refine ⟨sp_in (by omega) (by decide), sp_in (by omega) (by decide), sp_in (by omega) (by decide), _, σ, hl, ?_⟩
  intro y hy
  have e8 : (8 : Int32) * nI (pd_e d (π.getD i 0)) = nI (8 * pd_e d (π.getD i 0)) := pk_mul 8 _
  have e9 : ∀ m, (65536 : Int32) * nI m = nI (65536 * m) := fun m => pk_mul 65536 m
  rw [e8, nI_add, e9] at hy
  subst hy
  have := sp_mRowOf_1 h hm hp hN hi (pd_hd d (π.getD i 0)) i 0 (by omega)
  unfold pd_row
  rw [e]
  exact this
theorem sp_packed_1 (h : pd_W d) (hm : mD d σ) (hp : pN d π) (hN : mA d π σ) : ∀ m k, k + m = pd_n d → Rn_R_X7_packed 1 σ (nI (pd_pk (π.take k))) (nI k) (nI (pd_pk π)) σ := by
  have h7 := h.1.1
  intro m
  induction m with
  | zero =>
    intro k hk
    have hk' : k = pd_n d := by omega
    subst hk'
    apply ru_R_X7_packed_1
    unfold tr_R_X7_packed_1
    rw [hm.1.1, if_pos (nI_le (by omega) (by omega)), List.take_of_length_le (by rw [hp.2]; exact Nat.le_refl _)]
    exact ⟨rfl, rfl⟩
  | succ m ih =>
    intro k hk
    have hkn : k < pd_n d := by omega
    have ih' := ih (k + 1) (by omega)
    have g1 := pN_getD hp hkn
    have el : (π.take k).length = k := by rw [List.length_take, hp.2]; omega
    have hlt := pd_pk_lt (π.take k) (fun a ha => by have := hp.1.2 a (List.mem_of_mem_take ha); omega)
    rw [pd_take_succ (by rw [hp.2]; exact hkn), pd_pk_snoc] at ih'
    rw [el] at hlt ih'
    apply ru_R_X7_packed_1
    unfold tr_R_X7_packed_1
    rw [hm.1.1, if_neg (nI_ge (by omega) (by omega)), sp_ix (by omega), hN k hkn]
    refine ⟨sp_in (by omega) (by decide), ?_⟩
    intro y hy z hz
    rw [sp_inc] at hz
    have e3 : (3 : Int32) * nI k = nI (3 * k) := pk_mul 3 k
    have e4 : 2 ^ (3 * k) = 8 ^ k := by rw [Nat.pow_mul]
    have h5 : ∀ k, k < 7 → 7 * 2 ^ (3 * k) < 2 ^ 32 := by decide
    have h6 := h5 k (by omega)
    have hle : π.getD k 0 * 2 ^ (3 * k) ≤ 7 * 2 ^ (3 * k) := Nat.mul_le_mul_right _ (by omega)
    rw [e3, pk_shlN _ (3 * k) (sn_sm (3 * k) (by omega)) (by omega), nI_or] at hy
    rw [← e4] at hlt ih'
    have e5 := Nat.two_pow_add_eq_or_of_lt hlt (π.getD k 0)
    rw [Nat.or_comm, Nat.mul_comm (π.getD k 0), ← e5, Nat.add_comm] at hy
    subst hy
    subst hz
    exact ih'
theorem sp_packed (h : pd_W d) (hm : mD d σ) (hp : pN d π) (hN : mA d π σ) : R_X7_packed σ (nI (pd_pk π)) σ := by
  unfold R_X7_packed
  apply ru_R_X7_packed_0
  unfold tr_R_X7_packed_0
  exact sp_packed_1 h hm hp hN (pd_n d) 0 (by omega)
theorem pN_pk (h : pd_W d) (hp : pN d π) : pd_pk π < 2 ^ 31 := by
  have h7 := h.1.1
  have h1 := pd_pk_lt π (fun a ha => by have := hp.1.2 a ha; omega)
  rw [hp.2] at h1
  have h2 : 8 ^ pd_n d ≤ 8 ^ 7 := Nat.pow_le_pow_right (by decide) h7
  omega
theorem pN_ne (hp : pN d π) {i j : Nat} (hi : i < pd_n d) (hj : j < pd_n d) (hij : π.getD i 0 = π.getD j 0) : i = j := by
  have hl := hp.2
  have hi' : i < π.length := by omega
  have hj' : j < π.length := by omega
  have e1 : π.getD i 0 = π[i] := by simp [List.getD_eq_getElem?_getD, List.getElem?_eq_getElem hi']
  have e2 : π.getD j 0 = π[j] := by simp [List.getD_eq_getElem?_getD, List.getElem?_eq_getElem hj']
  rw [e1, e2] at hij
  have q1 := hp.1.1.idxOf_getElem i hi'
  have q2 := hp.1.1.idxOf_getElem j hj'
  rw [hij] at q1
  omega
theorem sp_unpack_1 (h : pd_W d) (hp : pN d π) : ∀ m k (σ : sf_St), k + m = pd_n d → σ 0 0 = nI (pd_n d) → (∀ i, i < k → σ 8 i = nI (π.getD i 0) ∧ σ 9 (π.getD i 0) = nI i) → ∃ τ, Rn_R_X7_unpack 1 σ (nI (pd_pk π)) (nI k) τ ∧ (∀ c, c ≠ 8 → c ≠ 9 → τ c = σ c) ∧ mN d π τ := by
  have h7 := h.1.1
  intro m
  induction m with
  | zero =>
    intro k σ hk h0 hN
    have hk' : k = pd_n d := by omega
    subst hk'
    refine ⟨σ, ?_, fun _ _ _ => rfl, hN⟩
    apply ru_R_X7_unpack_1
    unfold tr_R_X7_unpack_1
    rw [h0, if_pos (nI_le (by omega) (by omega))]
  | succ m ih =>
    intro k σ hk h0 hN
    have hkn : k < pd_n d := by omega
    have g1 := pN_getD hp hkn
    obtain ⟨τ, t1, t2, t3⟩ := ih (k + 1) (sf_up (sf_up σ 8 k (nI (π.getD k 0))) 9 (π.getD k 0) (nI k)) (by omega) h0 (by
      intro i hi
      show (if i = k then nI (π.getD k 0) else σ 8 i) = _ ∧ (if π.getD i 0 = π.getD k 0 then nI k else σ 9 (π.getD i 0)) = _
      by_cases hik : i = k
      · subst hik; rw [if_pos rfl, if_pos rfl]; exact ⟨rfl, rfl⟩
      · rw [if_neg hik, if_neg (fun q => hik (pN_ne hp (by omega) hkn q))]; exact hN i (by omega))
    refine ⟨τ, ?_, fun c h1 h2 => (t2 c h1 h2).trans (by rw [sf_up_ne _ _ _ h2, sf_up_ne _ _ _ h1]), t3⟩
    have hpk := pN_pk h hp
    have hat := pd_pk_at π k (fun a ha => by have := hp.1.2 a ha; omega)
    have e4 : 2 ^ (3 * k) = 8 ^ k := by rw [Nat.pow_mul]
    have e3 : (3 : Int32) * nI k = nI (3 * k) := pk_mul 3 k
    have ev : (nI (pd_pk π) >>> (((3 : Int32) * nI k) &&& 31)) &&& (7 : Int32) = nI (π.getD k 0) := by
      rw [e3, pk_shrN hpk _ (3 * k) (sn_sm (3 * k) (by omega)), pk_andN (k := 3) (Nat.lt_of_le_of_lt (Nat.div_le_self _ _) (by omega)) (by decide), e4]
      exact congrArg nI hat
    apply ru_R_X7_unpack_1
    unfold tr_R_X7_unpack_1
    rw [h0, if_neg (nI_ge (by omega) (by omega)), sp_ix (by omega), ev]
    have e8 : sf_up σ 8 k (nI (π.getD k 0)) 8 k = nI (π.getD k 0) := by rw [sf_up_at, if_pos rfl, if_pos rfl]
    simp only [forall_eq, sp_inc, e8, sp_ix (show π.getD k 0 < 2 ^ 31 by omega)]
    exact ⟨sp_in (by omega) (by decide), sp_in (by omega) (by decide), sp_in (by omega) (by decide), t1⟩
theorem sp_unpack (h : pd_W d) (hm : mD d σ) (hp : pN d π) : ∃ τ, R_X7_unpack σ (nI (pd_pk π)) τ ∧ (∀ c, c ≠ 8 → c ≠ 9 → τ c = σ c) ∧ mN d π τ := by
  obtain ⟨τ, t1, t2, t3⟩ := sp_unpack_1 h hp (pd_n d) 0 σ (by omega) hm.1.1 (fun i hi => by omega)
  refine ⟨τ, ?_, t2, t3⟩
  unfold R_X7_unpack
  apply ru_R_X7_unpack_0
  unfold tr_R_X7_unpack_0
  exact t1
end RS1
