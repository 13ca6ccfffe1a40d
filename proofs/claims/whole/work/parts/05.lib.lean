def tr_R_fill_0 (kf : Nat) (Pr : Nat → sf_St → Int32 → Int32 → Int32 → Prop) (τ : sf_St) (σ : sf_St) (u0 u1 u2 : Int32) : Prop :=
  Pr 1 σ u0 (0 : Int32) (7 : Int32)
def tr_R_fill_1 (kf : Nat) (Pr : Nat → sf_St → Int32 → Int32 → Int32 → Prop) (τ : sf_St) (σ : sf_St) (u0 u1 u2 : Int32) : Prop :=
  if u2 ≤ u1 then (τ = σ) else (vp_in u1 7 ∧ (∀ τ3 : sf_St, τ3 = sf_up σ kf (sf_ix u1) u0 → (∀ y4 : Int32, y4 = u1 + (1 : Int32) → (Pr 1 τ3 u0 y4 u2))))
def fn_R_fill (kf : Nat) (Pr : Nat → sf_St → Int32 → Int32 → Int32 → Prop) (τ : sf_St) (t : Nat) (σ : sf_St) (u0 u1 u2 : Int32) : Prop := match t with
  | 0 => tr_R_fill_0 kf Pr τ σ u0 u1 u2
  | 1 => tr_R_fill_1 kf Pr τ σ u0 u1 u2
  | _ => False
def Rn_R_fill (kf : Nat) (t : Nat) (σ : sf_St) (u0 u1 u2 : Int32) (τ : sf_St) : Prop := ∀ Pr : Nat → sf_St → Int32 → Int32 → Int32 → Prop, (∀ (t : Nat) (σ : sf_St) (u0 u1 u2 : Int32), fn_R_fill kf Pr τ t σ u0 u1 u2 → Pr t σ u0 u1 u2) → Pr t σ u0 u1 u2
def R_fill (kf : Nat) (σ : sf_St) (u0 : Int32) (τ : sf_St) : Prop := Rn_R_fill kf 0 σ u0 0 0 τ
theorem fe_R_fill_0 {kf : Nat} {Pr : Nat → sf_St → Int32 → Int32 → Int32 → Prop} {τ σ : sf_St} {u0 u1 u2 : Int32} (h : fn_R_fill kf Pr τ 0 σ u0 u1 u2) : tr_R_fill_0 kf Pr τ σ u0 u1 u2 := h
theorem mo_R_fill_0 {kf : Nat} {Pr Pr' : Nat → sf_St → Int32 → Int32 → Int32 → Prop} {τ σ : sf_St} {u0 u1 u2 : Int32} (hP : ∀ (t : Nat) (σ : sf_St) (u0 u1 u2 : Int32), Pr t σ u0 u1 u2 → Pr' t σ u0 u1 u2) (h : tr_R_fill_0 kf Pr τ σ u0 u1 u2) : tr_R_fill_0 kf Pr' τ σ u0 u1 u2 := by
  unfold tr_R_fill_0 at h ⊢
  exact hP _ _ _ _ _ h
theorem ru_R_fill_0 {kf : Nat} {τ σ : sf_St} {u0 u1 u2 : Int32} (h : tr_R_fill_0 kf (fun t σ u0 u1 u2 => Rn_R_fill kf t σ u0 u1 u2 τ) τ σ u0 u1 u2) : Rn_R_fill kf 0 σ u0 u1 u2 τ := fun Pr hP => hP 0 σ u0 u1 u2 (mo_R_fill_0 (fun _ _ _ _ _ h => h Pr hP) h)
theorem fe_R_fill_1 {kf : Nat} {Pr : Nat → sf_St → Int32 → Int32 → Int32 → Prop} {τ σ : sf_St} {u0 u1 u2 : Int32} (h : fn_R_fill kf Pr τ 1 σ u0 u1 u2) : tr_R_fill_1 kf Pr τ σ u0 u1 u2 := h
theorem mo_R_fill_1 {kf : Nat} {Pr Pr' : Nat → sf_St → Int32 → Int32 → Int32 → Prop} {τ σ : sf_St} {u0 u1 u2 : Int32} (hP : ∀ (t : Nat) (σ : sf_St) (u0 u1 u2 : Int32), Pr t σ u0 u1 u2 → Pr' t σ u0 u1 u2) (h : tr_R_fill_1 kf Pr τ σ u0 u1 u2) : tr_R_fill_1 kf Pr' τ σ u0 u1 u2 := by
  unfold tr_R_fill_1 at h ⊢
  refine sf_mif (fun h => ?_) (fun h => ?_) h
  · exact h
  · refine And.imp id (fun h => ?_) h
    intro τ3 hτ3
    have h := h τ3 hτ3
    intro y4 hy4
    have h := h y4 hy4
    exact hP _ _ _ _ _ h
theorem ru_R_fill_1 {kf : Nat} {τ σ : sf_St} {u0 u1 u2 : Int32} (h : tr_R_fill_1 kf (fun t σ u0 u1 u2 => Rn_R_fill kf t σ u0 u1 u2 τ) τ σ u0 u1 u2) : Rn_R_fill kf 1 σ u0 u1 u2 τ := fun Pr hP => hP 1 σ u0 u1 u2 (mo_R_fill_1 (fun _ _ _ _ _ h => h Pr hP) h)
set_option maxHeartbeats 4000000 in
set_option maxRecDepth 100000 in
theorem c_fill {l : Launch} {D : va_G} {q : Nat → Nat} {dA : Nat → ClassId} {tv ta tb : Nat} {kf : Nat} (hq : sf_inj q KX) (HK : KX[kf]? = some (0, 7, [])) {σ τ : sf_St} {u0 : Int32} (h : R_fill kf σ u0 τ) : sf_Mv l yJ7_fill wsJ7_fill ({ frames := 0, cells := 0, slots := 0, locals := 0 }) D vwCl q dA KX (sf_EX q tv ta tb) [.ref (q kf), .int u0] σ τ := by
  refine sf_metv (cc := cJ7_fill) (maxL := 4) (ret := none) (own := RJ7) (by decide +kernel) rfl rfl hq sf_EXk (Nat.le_of_ble_eq_true rfl) ?_
  intro p e s m args below meth c X
  have hT := X.2.2.2.1.2.1
  refine sf_loc (lv' := [(0, .ref (q kf)), (1, .int u0)]) [0, 1] rfl ?_
  refine h (fun t σ u0 u1 u2 => match t with
    | 0 => sf_G p l e (headSpec wsJ7_fill ({ frames := 0, cells := 0, slots := 0, locals := 0 })).room s m args below meth c (sf_Qv D vwCl q dA KX (sf_EX q tv ta tb) below args s τ) 4 D vwCl q dA KX σ 0 [(0, .ref (q kf)), (1, .int u0)] []
    | 1 => sf_G p l e (headSpec wsJ7_fill ({ frames := 0, cells := 0, slots := 0, locals := 0 })).room s m args below meth c (sf_Qv D vwCl q dA KX (sf_EX q tv ta tb) below args s τ) 4 D vwCl q dA KX σ 5 [(0, .ref (q kf)), (1, .int u0), (2, .int u1), (3, .int u2)] []
    | _ => True) ?_
  intro t σ u0 u1 u2 h
  match t, h with
  | 0, h =>
      replace h := fe_R_fill_0 h
      unfold tr_R_fill_0 at h
      show sf_G p l e (headSpec wsJ7_fill ({ frames := 0, cells := 0, slots := 0, locals := 0 })).room s m args below meth c (sf_Qv D vwCl q dA KX (sf_EX q tv ta tb) below args s τ) 4 D vwCl q dA KX σ 0 [(0, .ref (q kf)), (1, .int u0)] []
      refine sf_iconst (v := 0) X dJ7_fill_0 sf_ic_0 rfl ?_
      refine sf_istore_n (i := 2) (lv' := [(2, .int (0 : Int32)), (0, .ref (q kf)), (1, .int u0)]) X dJ7_fill_1 rfl (by decide) rfl rfl ?_
      refine sf_aload_n (i := 0) (j := 1) X dJ7_fill_2 rfl rfl rfl ?_
      refine sf_alen (t := 0) (ty := .int) (v := 7) X HK (by decide) rfl (by decide) dJ7_fill_3 rfl ?_
      refine sf_istore_n (i := 3) (lv' := [(3, .int (7 : Int32)), (2, .int (0 : Int32)), (0, .ref (q kf)), (1, .int u0)]) X dJ7_fill_4 rfl (by decide) rfl rfl ?_
      refine sf_loc (lv' := [(0, .ref (q kf)), (1, .int u0), (2, .int (0 : Int32)), (3, .int (7 : Int32))]) [2, 3, 1, 0] rfl ?_
      exact h
  | 1, h =>
      replace h := fe_R_fill_1 h
      unfold tr_R_fill_1 at h
      show sf_G p l e (headSpec wsJ7_fill ({ frames := 0, cells := 0, slots := 0, locals := 0 })).room s m args below meth c (sf_Qv D vwCl q dA KX (sf_EX q tv ta tb) below args s τ) 4 D vwCl q dA KX σ 5 [(0, .ref (q kf)), (1, .int u0), (2, .int u1), (3, .int u2)] []
      refine sf_iload_n (i := 2) (j := 2) X dJ7_fill_5 rfl rfl rfl ?_
      refine sf_iload_n (i := 3) (j := 3) X dJ7_fill_6 rfl rfl rfl ?_
      refine sf_icmp_ge (tgt := 20) X dJ7_fill_7 rfl rfl (fun c1 => ?_) (fun c1 => ?_)
      · have h := sf_ift c1 h
        exact sf_retv X h dJ7_fill_20
      · have h := sf_iff c1 h
        refine sf_aload_n (i := 0) (j := 0) X dJ7_fill_10 rfl rfl rfl ?_
        refine sf_iload_n (i := 2) (j := 2) X dJ7_fill_11 rfl rfl rfl ?_
        refine sf_iload_n (i := 1) (j := 1) X dJ7_fill_12 rfl rfl rfl ?_
        obtain ⟨b2, h⟩ := h
        refine sf_iast X HK b2 dJ7_fill_13 rfl (fun τ3 hτ3 => ?_)
        have h := h τ3 hτ3
        refine sf_iinc (i := 2) (j := 2) (d := 1) (lv' := fun y4 => [(2, .int y4), (0, .ref (q kf)), (1, .int u0), (3, .int u2)]) X dJ7_fill_14 rfl sf_ic_1 (by decide) (fun _ => rfl) rfl (fun y4 hy4 => ?_)
        have h := h y4 hy4
        refine sf_goto (tgt := 5) X dJ7_fill_17 rfl ?_
        refine sf_loc (lv' := [(0, .ref (q kf)), (1, .int u0), (2, .int y4), (3, .int u2)]) [1, 2, 0, 3] rfl ?_
        exact h
  | (_ + 2), _ => exact trivial
def sf_chr (i : Int32) : Int32 := ((sf_byts.getD (sf_ix i) 0 &&& 255).toUInt32 % 65536).toInt32
def R_charAt (σ : sf_St) (i r : Int32) (τ : sf_St) : Prop := vp_in i 6 ∧ r = sf_chr i ∧ τ = σ
theorem c_isLatin1 {l : Launch} {D : va_G} {q : Nat → Nat} {dA : Nat → ClassId} {tv ta tb : Nat} (hq : sf_inj q KX) {σ : sf_St} : sf_Mi l yJ0_isLatin1 wsJ0_isLatin1 ({ frames := 0, cells := 0, slots := 0, locals := 0 }) D vwCl q dA KX (sf_EX q tv ta tb) [.ref ta] σ 1 σ := by
  refine sf_meti (cc := cJ0_isLatin1) (maxL := 1) (ret := (some .boolean)) (own := RJ0) (by decide +kernel) rfl rfl hq sf_EXk (Nat.le_of_ble_eq_true rfl) ?_
  intro p e s m args below meth c X
  refine sf_loc (lv' := [(0, .ref ta)]) [0] rfl ?_
  refine sf_gets (v := .int 1) X X.2.2.2.1.2.2.2.2.2.1 (X.1.2.2.2.2 _ (sf_memc tw_573)) (fun _ h9 => h9) dJ0_isLatin1_0 rfl ?_
  refine sf_if_eq (tgt := 17) X dJ0_isLatin1_3 rfl rfl (fun h => absurd h (by decide)) (fun _ => ?_)
  refine sf_aload_n (i := 0) (j := 0) X dJ0_isLatin1_6 rfl rfl rfl ?_
  refine sf_getf (v := .int 0) X (X.2.2.2.1.2.2.2.2.1.1 0 (by decide)).2.1 (X.1.2.2.2.2 _ (sf_memc tw_880)) (fun _ h9 => h9) dJ0_isLatin1_7 rfl ?_
  refine sf_if_ne (tgt := 17) X dJ0_isLatin1_10 rfl rfl (fun h => absurd rfl h) (fun _ => ?_)
  refine sf_iconst (v := 1) X dJ0_isLatin1_13 sf_ic_1 rfl ?_
  refine sf_goto (tgt := 18) X dJ0_isLatin1_14 rfl ?_
  exact sf_retz X ⟨rfl, rfl⟩ rfl dJ0_isLatin1_18
theorem c_preIndex {l : Launch} {D : va_G} {q : Nat → Nat} {dA : Nat → ClassId} {tv ta tb : Nat} (hq : sf_inj q KX) {σ : sf_St} {i n : Int32} {v : Value} (hv : v = .null ∨ ∃ t : Nat, v = .ref t) (h0 : ¬ i < 0) (hn : i < n) : sf_Mi l yJ3_checkIndex wsJ3_checkIndex ({ frames := 0, cells := 0, slots := 0, locals := 0 }) D vwCl q dA KX (sf_EX q tv ta tb) [.int i, .int n, v] σ i σ := by
  rcases hv with rfl | ⟨t, rfl⟩
  all_goals
    refine sf_meti (cc := cJ3_checkIndex) (maxL := 3) (ret := (some .int)) (own := RJ3) (by decide +kernel) rfl rfl hq sf_EXk (Nat.le_of_ble_eq_true rfl) ?_
    intro p e s m args below meth c X
    refine sf_loc (lv' := [(0, .int i), (1, .int n)]) [0, 1] rfl ?_
    refine sf_iload_n (i := 0) (j := 0) X dJ3_checkIndex_0 rfl rfl rfl ?_
    refine sf_if_lt (tgt := 9) X dJ3_checkIndex_1 rfl rfl (fun h => absurd h h0) (fun _ => ?_)
    refine sf_iload_n (i := 0) (j := 0) X dJ3_checkIndex_4 rfl rfl rfl ?_
    refine sf_iload_n (i := 1) (j := 1) X dJ3_checkIndex_5 rfl rfl rfl ?_
    refine sf_icmp_lt (tgt := 16) X dJ3_checkIndex_6 rfl rfl (fun _ => ?_) (fun h => absurd hn h)
    refine sf_iload_n (i := 0) (j := 0) X dJ3_checkIndex_16 rfl rfl rfl ?_
    exact sf_reti X ⟨rfl, rfl⟩ dJ3_checkIndex_17
theorem c_strIndex {l : Launch} {D : va_G} {q : Nat → Nat} {dA : Nat → ClassId} {tv ta tb : Nat} (hq : sf_inj q KX) {σ : sf_St} {i n : Int32} (h0 : ¬ i < 0) (hn : i < n) : sf_Mv l yJ0_checkIndex wsJ0_checkIndex ({ frames := 1, cells := 0, slots := 0, locals := 22 }) D vwCl q dA KX (sf_EX q tv ta tb) [.int i, .int n] σ σ := by
  refine sf_metv (cc := cJ0_checkIndex) (maxL := 2) (ret := none) (own := RJ0) (by decide +kernel) rfl rfl hq sf_EXk (Nat.le_of_ble_eq_true rfl) ?_
  intro p e s m args below meth c X
  have key : ∀ v : Value, (v = .null ∨ ∃ t : Nat, v = .ref t) → va_Z "jdk/internal/util/Preconditions" "SIOOBE_FORMATTER" "Ljava/util/function/BiFunction;" v (sf_A q KX) s s.heap → sf_G p l e (headSpec wsJ0_checkIndex ({ frames := 1, cells := 0, slots := 0, locals := 22 })).room s m args below meth c (sf_Qv D vwCl q dA KX (sf_EX q tv ta tb) below args s σ) 2 D vwCl q dA KX σ 0 [(0, .int i), (1, .int n)] [] := by
    intro v hv hZ
    refine sf_iload_n (i := 0) (j := 0) X dJ0_checkIndex_0 rfl rfl rfl ?_
    refine sf_iload_n (i := 1) (j := 1) X dJ0_checkIndex_1 rfl rfl rfl ?_
    refine sf_gets (v := v) X hZ (X.1.2.2.2.2 _ (sf_memc tw_581)) (fun _ h9 => h9) dJ0_checkIndex_2 rfl ?_
    refine sf_callSi (As := [.int i, .int n, v]) (rest := []) X (c_preIndex hq hv h0 hn) (va_cwS 3 X.1.2.2.2.2 (sf_gS tw_583 tw_584 tw_54 tw_585) rfl rfl rfl hd_J3_checkIndex ⟨Nat.le_of_ble_eq_true rfl, Nat.le_of_ble_eq_true rfl⟩) rfl rfl (Nat.le_of_ble_eq_true rfl) dJ0_checkIndex_5 rfl ?_
    refine sf_pop X dJ0_checkIndex_8 rfl rfl ?_
    exact sf_retv X rfl dJ0_checkIndex_9
  refine sf_loc (lv' := [(0, .int i), (1, .int n)]) [0, 1] rfl ?_
  rcases X.2.2.2.1.2.2.2.2.2.2 with h | ⟨t, h⟩
  · exact key _ (Or.inl rfl) h
  · exact key _ (Or.inr ⟨t, rfl⟩) h
theorem c_latinCharAt {l : Launch} {D : va_G} {q : Nat → Nat} {dA : Nat → ClassId} {tv ta tb : Nat} (hq : sf_inj q KX) {σ : sf_St} {i : Int32} (hi : vp_in i 6) : sf_Mi l yJ1_charAt wsJ1_charAt ({ frames := 2, cells := 0, slots := 0, locals := 43 }) D vwCl q dA KX (sf_EX q tv ta tb) [.ref tb, .int i] σ (sf_chr i) σ := by
  refine sf_meti (cc := cJ1_charAt) (maxL := 2) (ret := (some .char)) (own := RJ1) (by decide +kernel) rfl rfl hq sf_EXk (Nat.le_of_ble_eq_true rfl) ?_
  intro p e s m args below meth c X
  have hT := (X.2.2.2.1.2.2.2.2.1.1 0 (by decide)).2.2.2
  have h6 : i < 6 := by
    have h := (vp_in_iff.mp hi).2
    rw [Int32.lt_iff_toInt_lt]
    exact h
  refine sf_loc (lv' := [(0, .ref tb), (1, .int i)]) [0, 1] rfl ?_
  refine sf_iload_n (i := 1) (j := 1) X dJ1_charAt_0 rfl rfl rfl ?_
  refine sf_aload_n (i := 0) (j := 0) X dJ1_charAt_1 rfl rfl rfl ?_
  refine sf_tlen (v := 6) X hT rfl dJ1_charAt_2 rfl ?_
  refine sf_callSv (As := [.int i, .int 6]) (rest := []) X (c_strIndex hq (fun h => hi (Or.inl h)) h6) (va_cwS 2 X.1.2.2.2.2 (sf_gS tw_578 tw_579 tw_52 tw_580) rfl rfl rfl hd_J0_checkIndex ⟨Nat.le_of_ble_eq_true rfl, Nat.le_of_ble_eq_true rfl⟩) rfl rfl (Nat.le_of_ble_eq_true rfl) dJ1_charAt_3 rfl ?_
  refine sf_aload_n (i := 0) (j := 0) X dJ1_charAt_6 rfl rfl rfl ?_
  refine sf_iload_n (i := 1) (j := 1) X dJ1_charAt_7 rfl rfl rfl ?_
  refine sf_tb (v := sf_byts.getD (sf_ix i) 0) X hT hi rfl dJ1_charAt_8 rfl ?_
  refine sf_sipush (v := 255) X dJ1_charAt_9 sf_sc_255 rfl ?_
  refine sf_iand X dJ1_charAt_12 rfl ?_
  refine sf_i2c X dJ1_charAt_13 rfl ?_
  exact sf_retz X ⟨rfl, rfl⟩ (pk_nc _) dJ1_charAt_14
theorem c_charAt {l : Launch} {D : va_G} {q : Nat → Nat} {dA : Nat → ClassId} {tv ta tb : Nat} (hq : sf_inj q KX) {σ τ : sf_St} {i r : Int32} (h : R_charAt σ i r τ) : sf_Mi l yJ0_charAt wsJ0_charAt ({ frames := 3, cells := 0, slots := 0, locals := 70 }) D vwCl q dA KX (sf_EX q tv ta tb) [.ref ta, .int i] σ r τ := by
  refine sf_meti (cc := cJ0_charAt) (maxL := 2) (ret := (some .char)) (own := RJ0) (by decide +kernel) rfl rfl hq sf_EXk (Nat.le_of_ble_eq_true rfl) ?_
  intro p e s m args below meth c X
  obtain ⟨hi, h⟩ := h
  refine sf_loc (lv' := [(0, .ref ta), (1, .int i)]) [0, 1] rfl ?_
  refine sf_aload_n (i := 0) (j := 0) X dJ0_charAt_0 rfl rfl rfl ?_
  refine sf_callStr (As := []) (rest := []) X X.2.2.2.1.2.2.2.2.1 (c_isLatin1 hq) (cwV 0 X.1.2.2.2.2 (sf_gV tw_569 tw_570 tw_571 tw_52 tw_572) rfl rfl rfl ⟨rfl, hd_J0_isLatin1⟩ ⟨Nat.le_of_ble_eq_true rfl, Nat.le_of_ble_eq_true rfl⟩) rfl rfl (Nat.le_of_ble_eq_true rfl) dJ0_charAt_1 rfl ?_
  refine sf_if_eq (tgt := 16) X dJ0_charAt_4 rfl rfl (fun h => absurd h (by decide)) (fun _ => ?_)
  refine sf_aload_n (i := 0) (j := 0) X dJ0_charAt_7 rfl rfl rfl ?_
  refine sf_getf (v := .ref tb) X (X.2.2.2.1.2.2.2.2.1.1 0 (by decide)).2.2.1 (X.1.2.2.2.2 _ (sf_memc tw_881)) (fun _ h9 => h9) dJ0_charAt_8 rfl ?_
  refine sf_iload_n (i := 1) (j := 1) X dJ0_charAt_11 rfl rfl rfl ?_
  refine sf_callSi (As := [.ref tb, .int i]) (rest := []) X (c_latinCharAt hq hi) (va_cwS 2 X.1.2.2.2.2 (sf_gS tw_575 tw_576 tw_53 tw_577) rfl rfl rfl hd_J1_charAt ⟨Nat.le_of_ble_eq_true rfl, Nat.le_of_ble_eq_true rfl⟩) rfl rfl (Nat.le_of_ble_eq_true rfl) dJ0_charAt_12 rfl ?_
  exact sf_retz X h (pk_nc _) dJ0_charAt_15
