def R_X4_senseOfBond (σ : sf_St) (u0 : Int32) (r : Int32) (τ : sf_St) : Prop :=
  ∃ (r3 : Int32) (τ2 : sf_St), R_X0_isHinge σ u0 r3 τ2 ∧ (if r3 = (0 : Int32) then (r = (0 : Int32) ∧ τ = τ2) else (vp_in u0 9 ∧ (vp_in u0 9 ∧ (∀ y7 : Int32, y7 = (if (τ2 6 (sf_ix u0)) < (τ2 5 (sf_ix u0)) then (τ2 6 (sf_ix u0)) else (τ2 5 (sf_ix u0))) → (vp_in u0 9 ∧ (vp_in u0 9 ∧ (∀ y10 : Int32, y10 = (if (τ2 5 (sf_ix u0)) < (τ2 6 (sf_ix u0)) then (τ2 6 (sf_ix u0)) else (τ2 5 (sf_ix u0))) → (∃ (r13 : Int32) (τ12 : sf_St), R_X4_sideOfEnd τ2 y7 y10 y7 r13 τ12 ∧ (∃ (r16 : Int32) (τ15 : sf_St), R_X4_sideOfEnd τ12 y7 y10 y10 r16 τ15 ∧ (r = (r13 * r16) ∧ τ = τ15))))))))))
set_option maxHeartbeats 4000000 in
set_option maxRecDepth 100000 in
theorem c_X4_senseOfBond {l : Launch} {D : va_G} {q : Nat → Nat} {dA : Nat → ClassId} {tv ta tb : Nat} (hq : sf_inj q KX) {σ τ : sf_St} {u0 : Int32} {r : Int32} (h : R_X4_senseOfBond σ u0 r τ) : sf_Mi l yX4_senseOfBond wsX4_senseOfBond ({ frames := 4, cells := 0, slots := 0, locals := 92 }) D vwCl q dA KX (sf_EX q tv ta tb) [.ref (q 17), .ref (q 1), .int u0] σ r τ := by
  refine sf_meti (cc := cX4_senseOfBond) (maxL := 5) (ret := (some .int)) (own := RX4) (by decide +kernel) rfl rfl hq sf_EXk (Nat.le_of_ble_eq_true rfl) ?_
  intro p e s m args below meth c X
  have hT := X.2.2.2.1.2.1
  unfold R_X4_senseOfBond at h
  refine sf_loc (lv' := [(0, .ref (q 17)), (1, .ref (q 1)), (2, .int u0)]) [0, 1, 2] rfl ?_
  refine sf_aload_n (i := 1) (j := 1) X dX4_senseOfBond_0 rfl rfl rfl ?_
  refine sf_iload_n (i := 2) (j := 2) X dX4_senseOfBond_1 rfl rfl rfl ?_
  obtain ⟨r3, τ2, hR1, h⟩ := h
  refine sf_callVi (As := [.int u0]) (rest := []) (cv := (RX0, TX0, 10)) X rfl rfl (c_X0_isHinge hq hR1) (cwV 1 X.1.2.2.2.2 (sf_gV tw_384 tw_385 tw_386 tw_42 tw_387) rfl rfl rfl ⟨rfl, hd_X0_isHinge⟩ ⟨Nat.le_of_ble_eq_true rfl, Nat.le_of_ble_eq_true rfl⟩) rfl rfl (Nat.le_of_ble_eq_true rfl) dX4_senseOfBond_2 rfl ?_
  refine sf_if_ne (tgt := 10) X dX4_senseOfBond_5 rfl rfl (fun c4 => ?_) (fun c4 => ?_)
  · have h := sf_iff c4 h
    refine sf_aload_n (i := 1) (j := 1) X dX4_senseOfBond_10 rfl rfl rfl ?_
    refine sf_getR (C := RX0) (T := TX0) (N := 10) (ci := 0) (j := 4) (k' := 5) X (fun w h => sf_memc (inX0 w h)) rfl rfl (by decide) (X.1.2.2.2.2 _ (sf_memc tw_89)) (fun _ h9 => h9) rfl dX4_senseOfBond_11 rfl ?_
    refine sf_iload_n (i := 2) (j := 2) X dX4_senseOfBond_14 rfl rfl rfl ?_
    obtain ⟨b5, h⟩ := h
    refine sf_iald X rfl b5 dX4_senseOfBond_15 rfl ?_
    refine sf_aload_n (i := 1) (j := 1) X dX4_senseOfBond_16 rfl rfl rfl ?_
    refine sf_getR (C := RX0) (T := TX0) (N := 10) (ci := 0) (j := 5) (k' := 6) X (fun w h => sf_memc (inX0 w h)) rfl rfl (by decide) (X.1.2.2.2.2 _ (sf_memc tw_92)) (fun _ h9 => h9) rfl dX4_senseOfBond_17 rfl ?_
    refine sf_iload_n (i := 2) (j := 2) X dX4_senseOfBond_20 rfl rfl rfl ?_
    obtain ⟨b6, h⟩ := h
    refine sf_iald X rfl b6 dX4_senseOfBond_21 rfl ?_
    refine sf_mmin X (X.1.2.2.2.2 _ (sf_memc tw_392)) (X.1.2.2.2.2 _ (sf_memc tw_393)) (X.1.2.2.2.2 _ (sf_memc tw_50)) (X.1.2.2.2.2 _ (sf_memc tw_394)) (Nat.le_of_ble_eq_true rfl) (Nat.le_of_ble_eq_true rfl) dX4_senseOfBond_22 rfl ?_
    refine sf_top (fun y7 hy7 => ?_)
    have h := h y7 hy7
    refine sf_istore_n (i := 3) (lv' := [(3, .int y7), (0, .ref (q 17)), (1, .ref (q 1)), (2, .int u0)]) X dX4_senseOfBond_25 rfl (by decide) rfl rfl ?_
    refine sf_aload_n (i := 1) (j := 2) X dX4_senseOfBond_26 rfl rfl rfl ?_
    refine sf_getR (C := RX0) (T := TX0) (N := 10) (ci := 0) (j := 4) (k' := 5) X (fun w h => sf_memc (inX0 w h)) rfl rfl (by decide) (X.1.2.2.2.2 _ (sf_memc tw_89)) (fun _ h9 => h9) rfl dX4_senseOfBond_27 rfl ?_
    refine sf_iload_n (i := 2) (j := 3) X dX4_senseOfBond_30 rfl rfl rfl ?_
    obtain ⟨b8, h⟩ := h
    refine sf_iald X rfl b8 dX4_senseOfBond_31 rfl ?_
    refine sf_aload_n (i := 1) (j := 2) X dX4_senseOfBond_32 rfl rfl rfl ?_
    refine sf_getR (C := RX0) (T := TX0) (N := 10) (ci := 0) (j := 5) (k' := 6) X (fun w h => sf_memc (inX0 w h)) rfl rfl (by decide) (X.1.2.2.2.2 _ (sf_memc tw_92)) (fun _ h9 => h9) rfl dX4_senseOfBond_33 rfl ?_
    refine sf_iload_n (i := 2) (j := 3) X dX4_senseOfBond_36 rfl rfl rfl ?_
    obtain ⟨b9, h⟩ := h
    refine sf_iald X rfl b9 dX4_senseOfBond_37 rfl ?_
    refine sf_mmax X (X.1.2.2.2.2 _ (sf_memc tw_395)) (X.1.2.2.2.2 _ (sf_memc tw_396)) (X.1.2.2.2.2 _ (sf_memc tw_50)) (X.1.2.2.2.2 _ (sf_memc tw_397)) (Nat.le_of_ble_eq_true rfl) (Nat.le_of_ble_eq_true rfl) dX4_senseOfBond_38 rfl ?_
    refine sf_top (fun y10 hy10 => ?_)
    have h := h y10 hy10
    refine sf_istore (i := 4) (lv' := [(4, .int y10), (3, .int y7), (0, .ref (q 17)), (1, .ref (q 1)), (2, .int u0)]) X dX4_senseOfBond_41 (by decide) rfl rfl ?_
    refine sf_aload_n (i := 1) (j := 3) X dX4_senseOfBond_43 rfl rfl rfl ?_
    refine sf_iload_n (i := 3) (j := 1) X dX4_senseOfBond_44 rfl rfl rfl ?_
    refine sf_iload (i := 4) (j := 0) X dX4_senseOfBond_45 rfl rfl ?_
    refine sf_iload_n (i := 3) (j := 1) X dX4_senseOfBond_47 rfl rfl rfl ?_
    obtain ⟨r13, τ12, hR11, h⟩ := h
    refine sf_callSi (As := [.ref (q 1), .int y7, .int y10, .int y7]) (rest := []) X (c_X4_sideOfEnd hq hR11) (va_cwS 4 X.1.2.2.2.2 (sf_gS tw_398 tw_399 tw_43 tw_400) rfl rfl rfl hd_X4_sideOfEnd ⟨Nat.le_of_ble_eq_true rfl, Nat.le_of_ble_eq_true rfl⟩) rfl rfl (Nat.le_of_ble_eq_true rfl) dX4_senseOfBond_48 rfl ?_
    refine sf_aload_n (i := 1) (j := 3) X dX4_senseOfBond_51 rfl rfl rfl ?_
    refine sf_iload_n (i := 3) (j := 1) X dX4_senseOfBond_52 rfl rfl rfl ?_
    refine sf_iload (i := 4) (j := 0) X dX4_senseOfBond_53 rfl rfl ?_
    refine sf_iload (i := 4) (j := 0) X dX4_senseOfBond_55 rfl rfl ?_
    obtain ⟨r16, τ15, hR14, h⟩ := h
    refine sf_callSi (As := [.ref (q 1), .int y7, .int y10, .int y10]) (rest := [.int r13]) X (c_X4_sideOfEnd hq hR14) (va_cwS 4 X.1.2.2.2.2 (sf_gS tw_398 tw_399 tw_43 tw_400) rfl rfl rfl hd_X4_sideOfEnd ⟨Nat.le_of_ble_eq_true rfl, Nat.le_of_ble_eq_true rfl⟩) rfl rfl (Nat.le_of_ble_eq_true rfl) dX4_senseOfBond_57 rfl ?_
    refine sf_imul X dX4_senseOfBond_60 rfl ?_
    exact sf_reti X h dX4_senseOfBond_61
  · have h := sf_ift c4 h
    refine sf_iconst (v := 0) X dX4_senseOfBond_8 sf_ic_0 rfl ?_
    exact sf_reti X h dX4_senseOfBond_9
def R_X6_turn (σ : sf_St) (u0 : Int32) (r : Int32) (τ : sf_St) : Prop :=
  ∃ (r3 : Int32) (τ2 : sf_St), R_X0_hasBond σ u0 r3 τ2 ∧ (if r3 = (0 : Int32) then (r = (-1 : Int32) ∧ τ = τ2) else (∃ (r7 : Int32) (τ6 : sf_St), R_X4_senseOfBond τ2 u0 r7 τ6 ∧ (∃ (r10 : Int32) (τ9 : sf_St), R_X0_isHinge τ6 u0 r10 τ9 ∧ (if r10 = (0 : Int32) then (r = ((r7 + (1 : Int32)) + (0 : Int32)) ∧ τ = τ9) else (r = ((r7 + (1 : Int32)) + (4 : Int32)) ∧ τ = τ9)))))
set_option maxHeartbeats 4000000 in
set_option maxRecDepth 100000 in
theorem c_X6_turn {l : Launch} {D : va_G} {q : Nat → Nat} {dA : Nat → ClassId} {tv ta tb : Nat} (hq : sf_inj q KX) {σ τ : sf_St} {u0 : Int32} {r : Int32} (h : R_X6_turn σ u0 r τ) : sf_Mi l yX6_turn wsX6_turn ({ frames := 5, cells := 0, slots := 0, locals := 116 }) D vwCl q dA KX (sf_EX q tv ta tb) [.ref (q 0), .int u0] σ r τ := by
  refine sf_meti (cc := cX6_turn) (maxL := 2) (ret := (some .int)) (own := RX6) (by decide +kernel) rfl rfl hq sf_EXk (Nat.le_of_ble_eq_true rfl) ?_
  intro p e s m args below meth c X
  have hT := X.2.2.2.1.2.1
  unfold R_X6_turn at h
  refine sf_loc (lv' := [(0, .ref (q 0)), (1, .int u0)]) [0, 1] rfl ?_
  refine sf_aload_n (i := 0) (j := 0) X dX6_turn_0 rfl rfl rfl ?_
  refine sf_getR (C := RX6) (T := TX6) (N := 11) (ci := 6) (j := 0) (k' := 1) X (fun w h => sf_memc (inX6 w h)) rfl rfl (by decide) (X.1.2.2.2.2 _ (sf_memc tw_224)) (fun _ h9 => h9) rfl dX6_turn_1 rfl ?_
  refine sf_iload_n (i := 1) (j := 1) X dX6_turn_4 rfl rfl rfl ?_
  obtain ⟨r3, τ2, hR1, h⟩ := h
  refine sf_callVi (As := [.int u0]) (rest := []) (cv := (RX0, TX0, 10)) X rfl rfl (c_X0_hasBond hq hR1) (cwV 1 X.1.2.2.2.2 (sf_gV tw_307 tw_308 tw_309 tw_42 tw_310) rfl rfl rfl ⟨rfl, hd_X0_hasBond⟩ ⟨Nat.le_of_ble_eq_true rfl, Nat.le_of_ble_eq_true rfl⟩) rfl rfl (Nat.le_of_ble_eq_true rfl) dX6_turn_5 rfl ?_
  refine sf_if_ne (tgt := 13) X dX6_turn_8 rfl rfl (fun c4 => ?_) (fun c4 => ?_)
  · have h := sf_iff c4 h
    refine sf_aload_n (i := 0) (j := 0) X dX6_turn_13 rfl rfl rfl ?_
    refine sf_getR (C := RX6) (T := TX6) (N := 11) (ci := 6) (j := 1) (k' := 17) X (fun w h => sf_memc (inX6 w h)) rfl rfl (by decide) (X.1.2.2.2.2 _ (sf_memc tw_225)) (fun _ h9 => h9) rfl dX6_turn_14 rfl ?_
    refine sf_aload_n (i := 0) (j := 0) X dX6_turn_17 rfl rfl rfl ?_
    refine sf_getR (C := RX6) (T := TX6) (N := 11) (ci := 6) (j := 0) (k' := 1) X (fun w h => sf_memc (inX6 w h)) rfl rfl (by decide) (X.1.2.2.2.2 _ (sf_memc tw_224)) (fun _ h9 => h9) rfl dX6_turn_18 rfl ?_
    refine sf_iload_n (i := 1) (j := 1) X dX6_turn_21 rfl rfl rfl ?_
    obtain ⟨r7, τ6, hR5, h⟩ := h
    refine sf_callVi (As := [.ref (q 1), .int u0]) (rest := []) (cv := (RX4, TX4, 4)) X rfl rfl (c_X4_senseOfBond hq hR5) (cwV 2 X.1.2.2.2.2 (sf_gV tw_380 tw_381 tw_382 tw_43 tw_383) rfl rfl rfl ⟨rfl, hd_X4_senseOfBond⟩ ⟨Nat.le_of_ble_eq_true rfl, Nat.le_of_ble_eq_true rfl⟩) rfl rfl (Nat.le_of_ble_eq_true rfl) dX6_turn_22 rfl ?_
    refine sf_iconst (v := 1) X dX6_turn_25 sf_ic_1 rfl ?_
    refine sf_iadd X dX6_turn_26 rfl ?_
    refine sf_aload_n (i := 0) (j := 0) X dX6_turn_27 rfl rfl rfl ?_
    refine sf_getR (C := RX6) (T := TX6) (N := 11) (ci := 6) (j := 0) (k' := 1) X (fun w h => sf_memc (inX6 w h)) rfl rfl (by decide) (X.1.2.2.2.2 _ (sf_memc tw_224)) (fun _ h9 => h9) rfl dX6_turn_28 rfl ?_
    refine sf_iload_n (i := 1) (j := 1) X dX6_turn_31 rfl rfl rfl ?_
    obtain ⟨r10, τ9, hR8, h⟩ := h
    refine sf_callVi (As := [.int u0]) (rest := [.int (r7 + (1 : Int32))]) (cv := (RX0, TX0, 10)) X rfl rfl (c_X0_isHinge hq hR8) (cwV 1 X.1.2.2.2.2 (sf_gV tw_406 tw_385 tw_386 tw_42 tw_387) rfl rfl rfl ⟨rfl, hd_X0_isHinge⟩ ⟨Nat.le_of_ble_eq_true rfl, Nat.le_of_ble_eq_true rfl⟩) rfl rfl (Nat.le_of_ble_eq_true rfl) dX6_turn_32 rfl ?_
    refine sf_if_eq (tgt := 42) X dX6_turn_35 rfl rfl (fun c11 => ?_) (fun c11 => ?_)
    · have h := sf_ift c11 h
      refine sf_iconst (v := 0) X dX6_turn_42 sf_ic_0 rfl ?_
      refine sf_iadd X dX6_turn_43 rfl ?_
      exact sf_reti X h dX6_turn_44
    · have h := sf_iff c11 h
      refine sf_iconst (v := 4) X dX6_turn_38 sf_ic_4 rfl ?_
      refine sf_goto (tgt := 43) X dX6_turn_39 rfl ?_
      refine sf_iadd X dX6_turn_43 rfl ?_
      exact sf_reti X h dX6_turn_44
  · have h := sf_ift c4 h
    refine sf_iconst (v := (-1)) X dX6_turn_11 sf_ic_m1 rfl ?_
    exact sf_reti X h dX6_turn_12
def tr_R_X4_readFrom_0 (Pr : Nat → sf_St → Int32 → Prop) (τ : sf_St) (σ : sf_St) (u0 : Int32) : Prop :=
  Pr 1 σ (0 : Int32)
def tr_R_X4_readFrom_1 (Pr : Nat → sf_St → Int32 → Prop) (τ : sf_St) (σ : sf_St) (u0 : Int32) : Prop :=
  if (σ 1 3) ≤ u0 then (Pr 2 σ (0 : Int32)) else (∃ (r4 : Int32) (τ3 : sf_St), R_X4_senseOfAtom σ u0 r4 τ3 ∧ (vp_in u0 7 ∧ (∀ τ6 : sf_St, τ6 = sf_up τ3 18 (sf_ix u0) r4 → (∀ y7 : Int32, y7 = u0 + (1 : Int32) → (Pr 1 τ6 y7)))))
def tr_R_X4_readFrom_2 (Pr : Nat → sf_St → Int32 → Prop) (τ : sf_St) (σ : sf_St) (u0 : Int32) : Prop :=
  if (σ 1 8) ≤ u0 then (τ = σ) else (∃ (r11 : Int32) (τ10 : sf_St), R_X4_senseOfBond σ u0 r11 τ10 ∧ (vp_in u0 9 ∧ (∀ τ13 : sf_St, τ13 = sf_up τ10 19 (sf_ix u0) r11 → (∃ (r16 : Int32) (τ15 : sf_St), R_X0_isHinge τ13 u0 r16 τ15 ∧ (vp_in u0 9 ∧ (∀ τ18 : sf_St, τ18 = sf_up τ15 20 (sf_ix u0) (vp_nar .boolean r16) → (∀ y19 : Int32, y19 = u0 + (1 : Int32) → (Pr 2 τ18 y19))))))))
def fn_R_X4_readFrom (Pr : Nat → sf_St → Int32 → Prop) (τ : sf_St) (t : Nat) (σ : sf_St) (u0 : Int32) : Prop := match t with
  | 0 => tr_R_X4_readFrom_0 Pr τ σ u0
  | 1 => tr_R_X4_readFrom_1 Pr τ σ u0
  | 2 => tr_R_X4_readFrom_2 Pr τ σ u0
  | _ => False
def Rn_R_X4_readFrom (t : Nat) (σ : sf_St) (u0 : Int32) (τ : sf_St) : Prop := ∀ Pr : Nat → sf_St → Int32 → Prop, (∀ (t : Nat) (σ : sf_St) (u0 : Int32), fn_R_X4_readFrom Pr τ t σ u0 → Pr t σ u0) → Pr t σ u0
def R_X4_readFrom (σ : sf_St) (τ : sf_St) : Prop := Rn_R_X4_readFrom 0 σ  0 τ
theorem fe_R_X4_readFrom_0 {Pr : Nat → sf_St → Int32 → Prop} {τ σ : sf_St} {u0 : Int32} (h : fn_R_X4_readFrom Pr τ 0 σ u0) : tr_R_X4_readFrom_0 Pr τ σ u0 := h
theorem mo_R_X4_readFrom_0 {Pr Pr' : Nat → sf_St → Int32 → Prop} {τ σ : sf_St} {u0 : Int32} (hP : ∀ (t : Nat) (σ : sf_St) (u0 : Int32), Pr t σ u0 → Pr' t σ u0) (h : tr_R_X4_readFrom_0 Pr τ σ u0) : tr_R_X4_readFrom_0 Pr' τ σ u0 := by
  unfold tr_R_X4_readFrom_0 at h ⊢
  exact hP _ _ _ h
theorem ru_R_X4_readFrom_0 {τ σ : sf_St} {u0 : Int32} (h : tr_R_X4_readFrom_0 (fun t σ u0 => Rn_R_X4_readFrom t σ u0 τ) τ σ u0) : Rn_R_X4_readFrom 0 σ u0 τ := fun Pr hP => hP 0 σ u0 (mo_R_X4_readFrom_0 (fun _ _ _ h => h Pr hP) h)
theorem fe_R_X4_readFrom_1 {Pr : Nat → sf_St → Int32 → Prop} {τ σ : sf_St} {u0 : Int32} (h : fn_R_X4_readFrom Pr τ 1 σ u0) : tr_R_X4_readFrom_1 Pr τ σ u0 := h
theorem mo_R_X4_readFrom_1 {Pr Pr' : Nat → sf_St → Int32 → Prop} {τ σ : sf_St} {u0 : Int32} (hP : ∀ (t : Nat) (σ : sf_St) (u0 : Int32), Pr t σ u0 → Pr' t σ u0) (h : tr_R_X4_readFrom_1 Pr τ σ u0) : tr_R_X4_readFrom_1 Pr' τ σ u0 := by
  unfold tr_R_X4_readFrom_1 at h ⊢
  refine sf_mif (fun h => ?_) (fun h => ?_) h
  · exact hP _ _ _ h
  · refine Exists.imp (fun _ h => Exists.imp (fun _ h => And.imp id (fun h => ?_) h) h) h
    refine And.imp id (fun h => ?_) h
    intro τ6 hτ6
    have h := h τ6 hτ6
    intro y7 hy7
    have h := h y7 hy7
    exact hP _ _ _ h
theorem ru_R_X4_readFrom_1 {τ σ : sf_St} {u0 : Int32} (h : tr_R_X4_readFrom_1 (fun t σ u0 => Rn_R_X4_readFrom t σ u0 τ) τ σ u0) : Rn_R_X4_readFrom 1 σ u0 τ := fun Pr hP => hP 1 σ u0 (mo_R_X4_readFrom_1 (fun _ _ _ h => h Pr hP) h)
theorem fe_R_X4_readFrom_2 {Pr : Nat → sf_St → Int32 → Prop} {τ σ : sf_St} {u0 : Int32} (h : fn_R_X4_readFrom Pr τ 2 σ u0) : tr_R_X4_readFrom_2 Pr τ σ u0 := h
theorem mo_R_X4_readFrom_2 {Pr Pr' : Nat → sf_St → Int32 → Prop} {τ σ : sf_St} {u0 : Int32} (hP : ∀ (t : Nat) (σ : sf_St) (u0 : Int32), Pr t σ u0 → Pr' t σ u0) (h : tr_R_X4_readFrom_2 Pr τ σ u0) : tr_R_X4_readFrom_2 Pr' τ σ u0 := by
  unfold tr_R_X4_readFrom_2 at h ⊢
  refine sf_mif (fun h => ?_) (fun h => ?_) h
  · exact h
  · refine Exists.imp (fun _ h => Exists.imp (fun _ h => And.imp id (fun h => ?_) h) h) h
    refine And.imp id (fun h => ?_) h
    intro τ13 hτ13
    have h := h τ13 hτ13
    refine Exists.imp (fun _ h => Exists.imp (fun _ h => And.imp id (fun h => ?_) h) h) h
    refine And.imp id (fun h => ?_) h
    intro τ18 hτ18
    have h := h τ18 hτ18
    intro y19 hy19
    have h := h y19 hy19
    exact hP _ _ _ h
theorem ru_R_X4_readFrom_2 {τ σ : sf_St} {u0 : Int32} (h : tr_R_X4_readFrom_2 (fun t σ u0 => Rn_R_X4_readFrom t σ u0 τ) τ σ u0) : Rn_R_X4_readFrom 2 σ u0 τ := fun Pr hP => hP 2 σ u0 (mo_R_X4_readFrom_2 (fun _ _ _ h => h Pr hP) h)
set_option maxHeartbeats 4000000 in
set_option maxRecDepth 100000 in
theorem c_X4_readFrom {l : Launch} {D : va_G} {q : Nat → Nat} {dA : Nat → ClassId} {tv ta tb : Nat} (hq : sf_inj q KX) {σ τ : sf_St} (h : R_X4_readFrom σ  τ) : sf_Mv l yX4_readFrom wsX4_readFrom ({ frames := 5, cells := 0, slots := 0, locals := 116 }) D vwCl q dA KX (sf_EX q tv ta tb) [.ref (q 17), .ref (q 1)] σ τ := by
  refine sf_metv (cc := cX4_readFrom) (maxL := 3) (ret := none) (own := RX4) (by decide +kernel) rfl rfl hq sf_EXk (Nat.le_of_ble_eq_true rfl) ?_
  intro p e s m args below meth c X
  have hT := X.2.2.2.1.2.1
  refine sf_loc (lv' := [(0, .ref (q 17)), (1, .ref (q 1))]) [0, 1] rfl ?_
  refine h (fun t σ u0 => match t with
    | 0 => sf_G p l e (headSpec wsX4_readFrom ({ frames := 5, cells := 0, slots := 0, locals := 116 })).room s m args below meth c (sf_Qv D vwCl q dA KX (sf_EX q tv ta tb) below args s τ) 3 D vwCl q dA KX σ 0 [(0, .ref (q 17)), (1, .ref (q 1))] []
    | 1 => sf_G p l e (headSpec wsX4_readFrom ({ frames := 5, cells := 0, slots := 0, locals := 116 })).room s m args below meth c (sf_Qv D vwCl q dA KX (sf_EX q tv ta tb) below args s τ) 3 D vwCl q dA KX σ 2 [(0, .ref (q 17)), (1, .ref (q 1)), (2, .int u0)] []
    | 2 => sf_G p l e (headSpec wsX4_readFrom ({ frames := 5, cells := 0, slots := 0, locals := 116 })).room s m args below meth c (sf_Qv D vwCl q dA KX (sf_EX q tv ta tb) below args s τ) 3 D vwCl q dA KX σ 30 [(0, .ref (q 17)), (1, .ref (q 1)), (2, .int u0)] []
    | _ => True) ?_
  intro t σ u0 h
  match t, h with
  | 0, h =>
      replace h := fe_R_X4_readFrom_0 h
      unfold tr_R_X4_readFrom_0 at h
      show sf_G p l e (headSpec wsX4_readFrom ({ frames := 5, cells := 0, slots := 0, locals := 116 })).room s m args below meth c (sf_Qv D vwCl q dA KX (sf_EX q tv ta tb) below args s τ) 3 D vwCl q dA KX σ 0 [(0, .ref (q 17)), (1, .ref (q 1))] []
      refine sf_iconst (v := 0) X dX4_readFrom_0 sf_ic_0 rfl ?_
      refine sf_istore_n (i := 2) (lv' := [(2, .int (0 : Int32)), (0, .ref (q 17)), (1, .ref (q 1))]) X dX4_readFrom_1 rfl (by decide) rfl rfl ?_
      refine sf_loc (lv' := [(0, .ref (q 17)), (1, .ref (q 1)), (2, .int (0 : Int32))]) [1, 2, 0] rfl ?_
      exact h
  | 1, h =>
      replace h := fe_R_X4_readFrom_1 h
      unfold tr_R_X4_readFrom_1 at h
      show sf_G p l e (headSpec wsX4_readFrom ({ frames := 5, cells := 0, slots := 0, locals := 116 })).room s m args below meth c (sf_Qv D vwCl q dA KX (sf_EX q tv ta tb) below args s τ) 3 D vwCl q dA KX σ 2 [(0, .ref (q 17)), (1, .ref (q 1)), (2, .int u0)] []
      refine sf_iload_n (i := 2) (j := 2) X dX4_readFrom_2 rfl rfl rfl ?_
      refine sf_aload_n (i := 1) (j := 1) X dX4_readFrom_3 rfl rfl rfl ?_
      refine sf_getI (C := RX0) (T := TX0) (N := 10) (ci := 0) (j := 3) X (fun w h => sf_memc (inX0 w h)) rfl rfl (by decide) (X.1.2.2.2.2 _ (sf_memc tw_82)) (fun _ h9 => h9) rfl dX4_readFrom_4 rfl ?_
      refine sf_icmp_ge (tgt := 28) X dX4_readFrom_7 rfl rfl (fun c1 => ?_) (fun c1 => ?_)
      · have h := sf_ift c1 h
        refine sf_iconst (v := 0) X dX4_readFrom_28 sf_ic_0 rfl ?_
        refine sf_istore_n (i := 2) (lv' := [(2, .int (0 : Int32)), (0, .ref (q 17)), (1, .ref (q 1))]) X dX4_readFrom_29 rfl (by decide) rfl rfl ?_
        refine sf_loc (lv' := [(0, .ref (q 17)), (1, .ref (q 1)), (2, .int (0 : Int32))]) [1, 2, 0] rfl ?_
        exact h
      · have h := sf_iff c1 h
        refine sf_aload_n (i := 0) (j := 0) X dX4_readFrom_10 rfl rfl rfl ?_
        refine sf_getR (C := RX4) (T := TX4) (N := 4) (ci := 4) (j := 0) (k' := 18) X (fun w h => sf_memc (inX4 w h)) rfl rfl (by decide) (X.1.2.2.2.2 _ (sf_memc tw_129)) (fun _ h9 => h9) rfl dX4_readFrom_11 rfl ?_
        refine sf_iload_n (i := 2) (j := 2) X dX4_readFrom_14 rfl rfl rfl ?_
        refine sf_aload_n (i := 0) (j := 0) X dX4_readFrom_15 rfl rfl rfl ?_
        refine sf_aload_n (i := 1) (j := 1) X dX4_readFrom_16 rfl rfl rfl ?_
        refine sf_iload_n (i := 2) (j := 2) X dX4_readFrom_17 rfl rfl rfl ?_
        obtain ⟨r4, τ3, hR2, h⟩ := h
        refine sf_callVi (As := [.ref (q 1), .int u0]) (rest := [.int u0, .ref (q 18)]) (cv := (RX4, TX4, 4)) X rfl rfl (c_X4_senseOfAtom hq hR2) (cwV 2 X.1.2.2.2.2 (sf_gV tw_419 tw_347 tw_348 tw_43 tw_349) rfl rfl rfl ⟨rfl, hd_X4_senseOfAtom⟩ ⟨Nat.le_of_ble_eq_true rfl, Nat.le_of_ble_eq_true rfl⟩) rfl rfl (Nat.le_of_ble_eq_true rfl) dX4_readFrom_18 rfl ?_
        obtain ⟨b5, h⟩ := h
        refine sf_iast X rfl b5 dX4_readFrom_21 rfl (fun τ6 hτ6 => ?_)
        have h := h τ6 hτ6
        refine sf_iinc (i := 2) (j := 2) (d := 1) (lv' := fun y7 => [(2, .int y7), (0, .ref (q 17)), (1, .ref (q 1))]) X dX4_readFrom_22 rfl sf_ic_1 (by decide) (fun _ => rfl) rfl (fun y7 hy7 => ?_)
        have h := h y7 hy7
        refine sf_goto (tgt := 2) X dX4_readFrom_25 rfl ?_
        refine sf_loc (lv' := [(0, .ref (q 17)), (1, .ref (q 1)), (2, .int y7)]) [1, 2, 0] rfl ?_
        exact h
  | 2, h =>
      replace h := fe_R_X4_readFrom_2 h
      unfold tr_R_X4_readFrom_2 at h
      show sf_G p l e (headSpec wsX4_readFrom ({ frames := 5, cells := 0, slots := 0, locals := 116 })).room s m args below meth c (sf_Qv D vwCl q dA KX (sf_EX q tv ta tb) below args s τ) 3 D vwCl q dA KX σ 30 [(0, .ref (q 17)), (1, .ref (q 1)), (2, .int u0)] []
      refine sf_iload_n (i := 2) (j := 2) X dX4_readFrom_30 rfl rfl rfl ?_
      refine sf_aload_n (i := 1) (j := 1) X dX4_readFrom_31 rfl rfl rfl ?_
      refine sf_getI (C := RX0) (T := TX0) (N := 10) (ci := 0) (j := 8) X (fun w h => sf_memc (inX0 w h)) rfl rfl (by decide) (X.1.2.2.2.2 _ (sf_memc tw_97)) (fun _ h9 => h9) rfl dX4_readFrom_32 rfl ?_
      refine sf_icmp_ge (tgt := 67) X dX4_readFrom_35 rfl rfl (fun c8 => ?_) (fun c8 => ?_)
      · have h := sf_ift c8 h
        exact sf_retv X h dX4_readFrom_67
      · have h := sf_iff c8 h
        refine sf_aload_n (i := 0) (j := 0) X dX4_readFrom_38 rfl rfl rfl ?_
        refine sf_getR (C := RX4) (T := TX4) (N := 4) (ci := 4) (j := 1) (k' := 19) X (fun w h => sf_memc (inX4 w h)) rfl rfl (by decide) (X.1.2.2.2.2 _ (sf_memc tw_131)) (fun _ h9 => h9) rfl dX4_readFrom_39 rfl ?_
        refine sf_iload_n (i := 2) (j := 2) X dX4_readFrom_42 rfl rfl rfl ?_
        refine sf_aload_n (i := 0) (j := 0) X dX4_readFrom_43 rfl rfl rfl ?_
        refine sf_aload_n (i := 1) (j := 1) X dX4_readFrom_44 rfl rfl rfl ?_
        refine sf_iload_n (i := 2) (j := 2) X dX4_readFrom_45 rfl rfl rfl ?_
        obtain ⟨r11, τ10, hR9, h⟩ := h
        refine sf_callVi (As := [.ref (q 1), .int u0]) (rest := [.int u0, .ref (q 19)]) (cv := (RX4, TX4, 4)) X rfl rfl (c_X4_senseOfBond hq hR9) (cwV 2 X.1.2.2.2.2 (sf_gV tw_420 tw_381 tw_382 tw_43 tw_383) rfl rfl rfl ⟨rfl, hd_X4_senseOfBond⟩ ⟨Nat.le_of_ble_eq_true rfl, Nat.le_of_ble_eq_true rfl⟩) rfl rfl (Nat.le_of_ble_eq_true rfl) dX4_readFrom_46 rfl ?_
        obtain ⟨b12, h⟩ := h
        refine sf_iast X rfl b12 dX4_readFrom_49 rfl (fun τ13 hτ13 => ?_)
        have h := h τ13 hτ13
        refine sf_aload_n (i := 0) (j := 0) X dX4_readFrom_50 rfl rfl rfl ?_
        refine sf_getR (C := RX4) (T := TX4) (N := 4) (ci := 4) (j := 2) (k' := 20) X (fun w h => sf_memc (inX4 w h)) rfl rfl (by decide) (X.1.2.2.2.2 _ (sf_memc tw_133)) (fun _ h9 => h9) rfl dX4_readFrom_51 rfl ?_
        refine sf_iload_n (i := 2) (j := 2) X dX4_readFrom_54 rfl rfl rfl ?_
        refine sf_aload_n (i := 1) (j := 1) X dX4_readFrom_55 rfl rfl rfl ?_
        refine sf_iload_n (i := 2) (j := 2) X dX4_readFrom_56 rfl rfl rfl ?_
        obtain ⟨r16, τ15, hR14, h⟩ := h
        refine sf_callVi (As := [.int u0]) (rest := [.int u0, .ref (q 20)]) (cv := (RX0, TX0, 10)) X rfl rfl (c_X0_isHinge hq hR14) (cwV 1 X.1.2.2.2.2 (sf_gV tw_384 tw_385 tw_386 tw_42 tw_387) rfl rfl rfl ⟨rfl, hd_X0_isHinge⟩ ⟨Nat.le_of_ble_eq_true rfl, Nat.le_of_ble_eq_true rfl⟩) rfl rfl (Nat.le_of_ble_eq_true rfl) dX4_readFrom_57 rfl ?_
        obtain ⟨b17, h⟩ := h
        refine sf_zast X rfl b17 dX4_readFrom_60 rfl (fun τ18 hτ18 => ?_)
        have h := h τ18 hτ18
        refine sf_iinc (i := 2) (j := 2) (d := 1) (lv' := fun y19 => [(2, .int y19), (0, .ref (q 17)), (1, .ref (q 1))]) X dX4_readFrom_61 rfl sf_ic_1 (by decide) (fun _ => rfl) rfl (fun y19 hy19 => ?_)
        have h := h y19 hy19
        refine sf_goto (tgt := 30) X dX4_readFrom_64 rfl ?_
        refine sf_loc (lv' := [(0, .ref (q 17)), (1, .ref (q 1)), (2, .int y19)]) [1, 2, 0] rfl ?_
        exact h
  | (_ + 3), _ => exact trivial
def tr_R_X3_begin_0 (Pr : Nat → sf_St → Int32 → Prop) (τ : sf_St) (σ : sf_St) (u0 : Int32) : Prop :=
  ∃ τ2 : sf_St, R_fill 28 σ (2147483647 : Int32) τ2 ∧ (Pr 1 τ2 (0 : Int32))
def tr_R_X3_begin_1 (Pr : Nat → sf_St → Int32 → Prop) (τ : sf_St) (σ : sf_St) (u0 : Int32) : Prop :=
  if (σ 1 3) ≤ u0 then (τ = σ) else (vp_in u0 7 ∧ (∃ (r7 : Int32) (τ6 : sf_St), R_X0_freeValence σ u0 r7 τ6 ∧ (vp_in u0 7 ∧ (∀ τ9 : sf_St, τ9 = sf_up τ6 35 (sf_ix u0) ((65536 : Int32) * (((8 : Int32) * (σ 2 (sf_ix u0))) + r7)) → (∀ y10 : Int32, y10 = u0 + (1 : Int32) → (Pr 1 τ9 y10))))))
def fn_R_X3_begin (Pr : Nat → sf_St → Int32 → Prop) (τ : sf_St) (t : Nat) (σ : sf_St) (u0 : Int32) : Prop := match t with
  | 0 => tr_R_X3_begin_0 Pr τ σ u0
  | 1 => tr_R_X3_begin_1 Pr τ σ u0
  | _ => False
def Rn_R_X3_begin (t : Nat) (σ : sf_St) (u0 : Int32) (τ : sf_St) : Prop := ∀ Pr : Nat → sf_St → Int32 → Prop, (∀ (t : Nat) (σ : sf_St) (u0 : Int32), fn_R_X3_begin Pr τ t σ u0 → Pr t σ u0) → Pr t σ u0
def R_X3_begin (σ : sf_St) (τ : sf_St) : Prop := Rn_R_X3_begin 0 σ  0 τ
theorem fe_R_X3_begin_0 {Pr : Nat → sf_St → Int32 → Prop} {τ σ : sf_St} {u0 : Int32} (h : fn_R_X3_begin Pr τ 0 σ u0) : tr_R_X3_begin_0 Pr τ σ u0 := h
theorem mo_R_X3_begin_0 {Pr Pr' : Nat → sf_St → Int32 → Prop} {τ σ : sf_St} {u0 : Int32} (hP : ∀ (t : Nat) (σ : sf_St) (u0 : Int32), Pr t σ u0 → Pr' t σ u0) (h : tr_R_X3_begin_0 Pr τ σ u0) : tr_R_X3_begin_0 Pr' τ σ u0 := by
  unfold tr_R_X3_begin_0 at h ⊢
  refine Exists.imp (fun _ h => And.imp id (fun h => ?_) h) h
  exact hP _ _ _ h
theorem ru_R_X3_begin_0 {τ σ : sf_St} {u0 : Int32} (h : tr_R_X3_begin_0 (fun t σ u0 => Rn_R_X3_begin t σ u0 τ) τ σ u0) : Rn_R_X3_begin 0 σ u0 τ := fun Pr hP => hP 0 σ u0 (mo_R_X3_begin_0 (fun _ _ _ h => h Pr hP) h)
theorem fe_R_X3_begin_1 {Pr : Nat → sf_St → Int32 → Prop} {τ σ : sf_St} {u0 : Int32} (h : fn_R_X3_begin Pr τ 1 σ u0) : tr_R_X3_begin_1 Pr τ σ u0 := h
theorem mo_R_X3_begin_1 {Pr Pr' : Nat → sf_St → Int32 → Prop} {τ σ : sf_St} {u0 : Int32} (hP : ∀ (t : Nat) (σ : sf_St) (u0 : Int32), Pr t σ u0 → Pr' t σ u0) (h : tr_R_X3_begin_1 Pr τ σ u0) : tr_R_X3_begin_1 Pr' τ σ u0 := by
  unfold tr_R_X3_begin_1 at h ⊢
  refine sf_mif (fun h => ?_) (fun h => ?_) h
  · exact h
  · refine And.imp id (fun h => ?_) h
    refine Exists.imp (fun _ h => Exists.imp (fun _ h => And.imp id (fun h => ?_) h) h) h
    refine And.imp id (fun h => ?_) h
    intro τ9 hτ9
    have h := h τ9 hτ9
    intro y10 hy10
    have h := h y10 hy10
    exact hP _ _ _ h
theorem ru_R_X3_begin_1 {τ σ : sf_St} {u0 : Int32} (h : tr_R_X3_begin_1 (fun t σ u0 => Rn_R_X3_begin t σ u0 τ) τ σ u0) : Rn_R_X3_begin 1 σ u0 τ := fun Pr hP => hP 1 σ u0 (mo_R_X3_begin_1 (fun _ _ _ h => h Pr hP) h)
set_option maxHeartbeats 4000000 in
set_option maxRecDepth 100000 in
theorem c_X3_begin {l : Launch} {D : va_G} {q : Nat → Nat} {dA : Nat → ClassId} {tv ta tb : Nat} (hq : sf_inj q KX) {σ τ : sf_St} (h : R_X3_begin σ  τ) : sf_Mv l yX3_begin wsX3_begin ({ frames := 2, cells := 0, slots := 0, locals := 46 }) D vwCl q dA KX (sf_EX q tv ta tb) [.ref (q 27), .ref (q 1)] σ τ := by
  refine sf_metv (cc := cX3_begin) (maxL := 3) (ret := none) (own := RX3) (by decide +kernel) rfl rfl hq sf_EXk (Nat.le_of_ble_eq_true rfl) ?_
  intro p e s m args below meth c X
  have hT := X.2.2.2.1.2.1
  refine sf_loc (lv' := [(0, .ref (q 27)), (1, .ref (q 1))]) [0, 1] rfl ?_
  refine h (fun t σ u0 => match t with
    | 0 => sf_G p l e (headSpec wsX3_begin ({ frames := 2, cells := 0, slots := 0, locals := 46 })).room s m args below meth c (sf_Qv D vwCl q dA KX (sf_EX q tv ta tb) below args s τ) 3 D vwCl q dA KX σ 0 [(0, .ref (q 27)), (1, .ref (q 1))] []
    | 1 => sf_G p l e (headSpec wsX3_begin ({ frames := 2, cells := 0, slots := 0, locals := 46 })).room s m args below meth c (sf_Qv D vwCl q dA KX (sf_EX q tv ta tb) below args s τ) 3 D vwCl q dA KX σ 11 [(0, .ref (q 27)), (1, .ref (q 1)), (2, .int u0)] []
    | _ => True) ?_
  intro t σ u0 h
  match t, h with
  | 0, h =>
      replace h := fe_R_X3_begin_0 h
      unfold tr_R_X3_begin_0 at h
      show sf_G p l e (headSpec wsX3_begin ({ frames := 2, cells := 0, slots := 0, locals := 46 })).room s m args below meth c (sf_Qv D vwCl q dA KX (sf_EX q tv ta tb) below args s τ) 3 D vwCl q dA KX σ 0 [(0, .ref (q 27)), (1, .ref (q 1))] []
      refine sf_aload_n (i := 0) (j := 0) X dX3_begin_0 rfl rfl rfl ?_
      refine sf_getR (C := RX3) (T := TX3) (N := 5) (ci := 3) (j := 0) (k' := 28) X (fun w h => sf_memc (inX3 w h)) rfl rfl (by decide) (X.1.2.2.2.2 _ (sf_memc tw_169)) (fun _ h9 => h9) rfl dX3_begin_1 rfl ?_
      refine sf_ldc (v := 2147483647) X (X.1.2.2.2.2 _ (sf_memc tw_168)) dX3_begin_4 rfl ?_
      obtain ⟨τ2, hR1, h⟩ := h
      refine sf_callSv (As := [.ref (q 28), .int (2147483647 : Int32)]) (rest := []) X (c_fill hq rfl hR1) (va_cwS 2 X.1.2.2.2.2 (sf_gS tw_425 tw_328 tw_49 tw_329) rfl rfl rfl hd_J7_fill ⟨Nat.le_of_ble_eq_true rfl, Nat.le_of_ble_eq_true rfl⟩) rfl rfl (Nat.le_of_ble_eq_true rfl) dX3_begin_6 rfl ?_
      refine sf_iconst (v := 0) X dX3_begin_9 sf_ic_0 rfl ?_
      refine sf_istore_n (i := 2) (lv' := [(2, .int (0 : Int32)), (0, .ref (q 27)), (1, .ref (q 1))]) X dX3_begin_10 rfl (by decide) rfl rfl ?_
      refine sf_loc (lv' := [(0, .ref (q 27)), (1, .ref (q 1)), (2, .int (0 : Int32))]) [1, 2, 0] rfl ?_
      exact h
  | 1, h =>
      replace h := fe_R_X3_begin_1 h
      unfold tr_R_X3_begin_1 at h
      show sf_G p l e (headSpec wsX3_begin ({ frames := 2, cells := 0, slots := 0, locals := 46 })).room s m args below meth c (sf_Qv D vwCl q dA KX (sf_EX q tv ta tb) below args s τ) 3 D vwCl q dA KX σ 11 [(0, .ref (q 27)), (1, .ref (q 1)), (2, .int u0)] []
      refine sf_iload_n (i := 2) (j := 2) X dX3_begin_11 rfl rfl rfl ?_
      refine sf_aload_n (i := 1) (j := 1) X dX3_begin_12 rfl rfl rfl ?_
      refine sf_getI (C := RX0) (T := TX0) (N := 10) (ci := 0) (j := 3) X (fun w h => sf_memc (inX0 w h)) rfl rfl (by decide) (X.1.2.2.2.2 _ (sf_memc tw_84)) (fun _ h9 => h9) rfl dX3_begin_13 rfl ?_
      refine sf_icmp_ge (tgt := 49) X dX3_begin_16 rfl rfl (fun c3 => ?_) (fun c3 => ?_)
      · have h := sf_ift c3 h
        exact sf_retv X h dX3_begin_49
      · have h := sf_iff c3 h
        refine sf_aload_n (i := 0) (j := 0) X dX3_begin_19 rfl rfl rfl ?_
        refine sf_getR (C := RX3) (T := TX3) (N := 5) (ci := 3) (j := 3) (k' := 35) X (fun w h => sf_memc (inX3 w h)) rfl rfl (by decide) (X.1.2.2.2.2 _ (sf_memc tw_174)) (fun _ h9 => h9) rfl dX3_begin_20 rfl ?_
        refine sf_iload_n (i := 2) (j := 2) X dX3_begin_23 rfl rfl rfl ?_
        refine sf_ldc (v := 65536) X (X.1.2.2.2.2 _ (sf_memc tw_426)) dX3_begin_24 rfl ?_
        refine sf_bipush (v := 8) X dX3_begin_26 sf_bc_8 rfl ?_
        refine sf_aload_n (i := 1) (j := 1) X dX3_begin_28 rfl rfl rfl ?_
        refine sf_getR (C := RX0) (T := TX0) (N := 10) (ci := 0) (j := 0) (k' := 2) X (fun w h => sf_memc (inX0 w h)) rfl rfl (by decide) (X.1.2.2.2.2 _ (sf_memc tw_74)) (fun _ h9 => h9) rfl dX3_begin_29 rfl ?_
        refine sf_iload_n (i := 2) (j := 2) X dX3_begin_32 rfl rfl rfl ?_
        obtain ⟨b4, h⟩ := h
        refine sf_iald X rfl b4 dX3_begin_33 rfl ?_
        refine sf_imul X dX3_begin_34 rfl ?_
        refine sf_aload_n (i := 1) (j := 1) X dX3_begin_35 rfl rfl rfl ?_
        refine sf_iload_n (i := 2) (j := 2) X dX3_begin_36 rfl rfl rfl ?_
        obtain ⟨r7, τ6, hR5, h⟩ := h
        refine sf_callVi (As := [.int u0]) (rest := [.int ((8 : Int32) * (σ 2 (sf_ix u0))), .int (65536 : Int32), .int u0, .ref (q 35)]) (cv := (RX0, TX0, 10)) X rfl rfl (c_X0_freeValence hq hR5) (cwV 1 X.1.2.2.2.2 (sf_gV tw_427 tw_287 tw_288 tw_42 tw_289) rfl rfl rfl ⟨rfl, hd_X0_freeValence⟩ ⟨Nat.le_of_ble_eq_true rfl, Nat.le_of_ble_eq_true rfl⟩) rfl rfl (Nat.le_of_ble_eq_true rfl) dX3_begin_37 rfl ?_
        refine sf_iadd X dX3_begin_40 rfl ?_
        refine sf_imul X dX3_begin_41 rfl ?_
        obtain ⟨b8, h⟩ := h
        refine sf_iast X rfl b8 dX3_begin_42 rfl (fun τ9 hτ9 => ?_)
        have h := h τ9 hτ9
        refine sf_iinc (i := 2) (j := 2) (d := 1) (lv' := fun y10 => [(2, .int y10), (0, .ref (q 27)), (1, .ref (q 1))]) X dX3_begin_43 rfl sf_ic_1 (by decide) (fun _ => rfl) rfl (fun y10 hy10 => ?_)
        have h := h y10 hy10
        refine sf_goto (tgt := 11) X dX3_begin_46 rfl ?_
        refine sf_loc (lv' := [(0, .ref (q 27)), (1, .ref (q 1)), (2, .int y10)]) [1, 2, 0] rfl ?_
        exact h
  | (_ + 2), _ => exact trivial
def R_X2_removeAll (σ : sf_St) (τ : sf_St) : Prop :=
  ∃ τ2 : sf_St, R_fill 33 σ (-1 : Int32) τ2 ∧ (∃ τ4 : sf_St, R_fill 34 τ2 (-1 : Int32) τ4 ∧ (τ = τ4))
set_option maxHeartbeats 4000000 in
set_option maxRecDepth 100000 in
theorem c_X2_removeAll {l : Launch} {D : va_G} {q : Nat → Nat} {dA : Nat → ClassId} {tv ta tb : Nat} (hq : sf_inj q KX) {σ τ : sf_St} (h : R_X2_removeAll σ  τ) : sf_Mv l yX2_removeAll wsX2_removeAll ({ frames := 1, cells := 0, slots := 0, locals := 23 }) D vwCl q dA KX (sf_EX q tv ta tb) [.ref (q 32)] σ τ := by
  refine sf_metv (cc := cX2_removeAll) (maxL := 1) (ret := none) (own := RX2) (by decide +kernel) rfl rfl hq sf_EXk (Nat.le_of_ble_eq_true rfl) ?_
  intro p e s m args below meth c X
  have hT := X.2.2.2.1.2.1
  unfold R_X2_removeAll at h
  refine sf_loc (lv' := [(0, .ref (q 32))]) [0] rfl ?_
  refine sf_aload_n (i := 0) (j := 0) X dX2_removeAll_0 rfl rfl rfl ?_
  refine sf_getR (C := RX2) (T := TX2) (N := 2) (ci := 2) (j := 0) (k' := 33) X (fun w h => sf_memc (inX2 w h)) rfl rfl (by decide) (X.1.2.2.2.2 _ (sf_memc tw_158)) (fun _ h9 => h9) rfl dX2_removeAll_1 rfl ?_
  refine sf_iconst (v := (-1)) X dX2_removeAll_4 sf_ic_m1 rfl ?_
  obtain ⟨τ2, hR1, h⟩ := h
  refine sf_callSv (As := [.ref (q 33), .int (-1 : Int32)]) (rest := []) X (c_fill hq rfl hR1) (va_cwS 2 X.1.2.2.2.2 (sf_gS tw_436 tw_328 tw_49 tw_329) rfl rfl rfl hd_J7_fill ⟨Nat.le_of_ble_eq_true rfl, Nat.le_of_ble_eq_true rfl⟩) rfl rfl (Nat.le_of_ble_eq_true rfl) dX2_removeAll_5 rfl ?_
  refine sf_aload_n (i := 0) (j := 0) X dX2_removeAll_8 rfl rfl rfl ?_
  refine sf_getR (C := RX2) (T := TX2) (N := 2) (ci := 2) (j := 1) (k' := 34) X (fun w h => sf_memc (inX2 w h)) rfl rfl (by decide) (X.1.2.2.2.2 _ (sf_memc tw_161)) (fun _ h9 => h9) rfl dX2_removeAll_9 rfl ?_
  refine sf_iconst (v := (-1)) X dX2_removeAll_12 sf_ic_m1 rfl ?_
  obtain ⟨τ4, hR3, h⟩ := h
  refine sf_callSv (As := [.ref (q 34), .int (-1 : Int32)]) (rest := []) X (c_fill hq rfl hR3) (va_cwS 2 X.1.2.2.2.2 (sf_gS tw_436 tw_328 tw_49 tw_329) rfl rfl rfl hd_J7_fill ⟨Nat.le_of_ble_eq_true rfl, Nat.le_of_ble_eq_true rfl⟩) rfl rfl (Nat.le_of_ble_eq_true rfl) dX2_removeAll_13 rfl ?_
  exact sf_retv X h dX2_removeAll_16
def tr_R_X3_rowOf_0 (Pr : Nat → sf_St → Int32 → Int32 → Int32 → Int32 → Prop) (r : Int32) (τ : sf_St) (σ : sf_St) (u0 u1 u2 u3 : Int32) : Prop :=
  vp_in u0 7 ∧ (∀ y2 : Int32, y2 = (σ 35 (sf_ix u0)) → (Pr 1 σ u0 u1 y2 (0 : Int32)))
def tr_R_X3_rowOf_1 (Pr : Nat → sf_St → Int32 → Int32 → Int32 → Int32 → Prop) (r : Int32) (τ : sf_St) (σ : sf_St) (u0 u1 u2 u3 : Int32) : Prop :=
  if u1 ≤ u3 then (r = u2 ∧ τ = σ) else (vp_in u3 7 ∧ (∃ (r7 : Int32) (τ6 : sf_St), R_X0_orderOf σ u0 (σ 33 (sf_ix u3)) r7 τ6 ∧ (∀ y8 : Int32, y8 = (u2 + (r7 <<< (((2 : Int32) * u3) &&& 31))) → (∀ y9 : Int32, y9 = u3 + (1 : Int32) → (Pr 1 τ6 u0 u1 y8 y9)))))
def fn_R_X3_rowOf (Pr : Nat → sf_St → Int32 → Int32 → Int32 → Int32 → Prop) (r : Int32) (τ : sf_St) (t : Nat) (σ : sf_St) (u0 u1 u2 u3 : Int32) : Prop := match t with
  | 0 => tr_R_X3_rowOf_0 Pr r τ σ u0 u1 u2 u3
  | 1 => tr_R_X3_rowOf_1 Pr r τ σ u0 u1 u2 u3
  | _ => False
def Rn_R_X3_rowOf (t : Nat) (σ : sf_St) (u0 u1 u2 u3 : Int32) (r : Int32) (τ : sf_St) : Prop := ∀ Pr : Nat → sf_St → Int32 → Int32 → Int32 → Int32 → Prop, (∀ (t : Nat) (σ : sf_St) (u0 u1 u2 u3 : Int32), fn_R_X3_rowOf Pr r τ t σ u0 u1 u2 u3 → Pr t σ u0 u1 u2 u3) → Pr t σ u0 u1 u2 u3
def R_X3_rowOf (σ : sf_St) (u0 u1 : Int32) (r : Int32) (τ : sf_St) : Prop := Rn_R_X3_rowOf 0 σ u0 u1 0 0 r τ
theorem fe_R_X3_rowOf_0 {Pr : Nat → sf_St → Int32 → Int32 → Int32 → Int32 → Prop} {r : Int32} {τ σ : sf_St} {u0 u1 u2 u3 : Int32} (h : fn_R_X3_rowOf Pr r τ 0 σ u0 u1 u2 u3) : tr_R_X3_rowOf_0 Pr r τ σ u0 u1 u2 u3 := h
theorem mo_R_X3_rowOf_0 {Pr Pr' : Nat → sf_St → Int32 → Int32 → Int32 → Int32 → Prop} {r : Int32} {τ σ : sf_St} {u0 u1 u2 u3 : Int32} (hP : ∀ (t : Nat) (σ : sf_St) (u0 u1 u2 u3 : Int32), Pr t σ u0 u1 u2 u3 → Pr' t σ u0 u1 u2 u3) (h : tr_R_X3_rowOf_0 Pr r τ σ u0 u1 u2 u3) : tr_R_X3_rowOf_0 Pr' r τ σ u0 u1 u2 u3 := by
  unfold tr_R_X3_rowOf_0 at h ⊢
  refine And.imp id (fun h => ?_) h
  intro y2 hy2
  have h := h y2 hy2
  exact hP _ _ _ _ _ _ h
theorem ru_R_X3_rowOf_0 {r : Int32} {τ σ : sf_St} {u0 u1 u2 u3 : Int32} (h : tr_R_X3_rowOf_0 (fun t σ u0 u1 u2 u3 => Rn_R_X3_rowOf t σ u0 u1 u2 u3 r τ) r τ σ u0 u1 u2 u3) : Rn_R_X3_rowOf 0 σ u0 u1 u2 u3 r τ := fun Pr hP => hP 0 σ u0 u1 u2 u3 (mo_R_X3_rowOf_0 (fun _ _ _ _ _ _ h => h Pr hP) h)
theorem fe_R_X3_rowOf_1 {Pr : Nat → sf_St → Int32 → Int32 → Int32 → Int32 → Prop} {r : Int32} {τ σ : sf_St} {u0 u1 u2 u3 : Int32} (h : fn_R_X3_rowOf Pr r τ 1 σ u0 u1 u2 u3) : tr_R_X3_rowOf_1 Pr r τ σ u0 u1 u2 u3 := h
theorem mo_R_X3_rowOf_1 {Pr Pr' : Nat → sf_St → Int32 → Int32 → Int32 → Int32 → Prop} {r : Int32} {τ σ : sf_St} {u0 u1 u2 u3 : Int32} (hP : ∀ (t : Nat) (σ : sf_St) (u0 u1 u2 u3 : Int32), Pr t σ u0 u1 u2 u3 → Pr' t σ u0 u1 u2 u3) (h : tr_R_X3_rowOf_1 Pr r τ σ u0 u1 u2 u3) : tr_R_X3_rowOf_1 Pr' r τ σ u0 u1 u2 u3 := by
  unfold tr_R_X3_rowOf_1 at h ⊢
  refine sf_mif (fun h => ?_) (fun h => ?_) h
  · exact h
  · refine And.imp id (fun h => ?_) h
    refine Exists.imp (fun _ h => Exists.imp (fun _ h => And.imp id (fun h => ?_) h) h) h
    intro y8 hy8
    have h := h y8 hy8
    intro y9 hy9
    have h := h y9 hy9
    exact hP _ _ _ _ _ _ h
theorem ru_R_X3_rowOf_1 {r : Int32} {τ σ : sf_St} {u0 u1 u2 u3 : Int32} (h : tr_R_X3_rowOf_1 (fun t σ u0 u1 u2 u3 => Rn_R_X3_rowOf t σ u0 u1 u2 u3 r τ) r τ σ u0 u1 u2 u3) : Rn_R_X3_rowOf 1 σ u0 u1 u2 u3 r τ := fun Pr hP => hP 1 σ u0 u1 u2 u3 (mo_R_X3_rowOf_1 (fun _ _ _ _ _ _ h => h Pr hP) h)
set_option maxHeartbeats 4000000 in
set_option maxRecDepth 100000 in
theorem c_X3_rowOf {l : Launch} {D : va_G} {q : Nat → Nat} {dA : Nat → ClassId} {tv ta tb : Nat} (hq : sf_inj q KX) {σ τ : sf_St} {u0 u1 : Int32} {r : Int32} (h : R_X3_rowOf σ u0 u1 r τ) : sf_Mi l yX3_rowOf wsX3_rowOf ({ frames := 1, cells := 0, slots := 0, locals := 23 }) D vwCl q dA KX (sf_EX q tv ta tb) [.ref (q 27), .ref (q 1), .int u0, .int u1] σ r τ := by
  refine sf_meti (cc := cX3_rowOf) (maxL := 6) (ret := (some .int)) (own := RX3) (by decide +kernel) rfl rfl hq sf_EXk (Nat.le_of_ble_eq_true rfl) ?_
  intro p e s m args below meth c X
  have hT := X.2.2.2.1.2.1
  refine sf_loc (lv' := [(0, .ref (q 27)), (1, .ref (q 1)), (2, .int u0), (3, .int u1)]) [0, 1, 2, 3] rfl ?_
  refine h (fun t σ u0 u1 u2 u3 => match t with
    | 0 => sf_G p l e (headSpec wsX3_rowOf ({ frames := 1, cells := 0, slots := 0, locals := 23 })).room s m args below meth c (sf_Qi D vwCl q dA KX (sf_EX q tv ta tb) below args s r τ) 6 D vwCl q dA KX σ 0 [(0, .ref (q 27)), (1, .ref (q 1)), (2, .int u0), (3, .int u1)] []
    | 1 => sf_G p l e (headSpec wsX3_rowOf ({ frames := 1, cells := 0, slots := 0, locals := 23 })).room s m args below meth c (sf_Qi D vwCl q dA KX (sf_EX q tv ta tb) below args s r τ) 6 D vwCl q dA KX σ 11 [(0, .ref (q 27)), (1, .ref (q 1)), (2, .int u0), (3, .int u1), (4, .int u2), (5, .int u3)] []
    | _ => True) ?_
  intro t σ u0 u1 u2 u3 h
  match t, h with
  | 0, h =>
      replace h := fe_R_X3_rowOf_0 h
      unfold tr_R_X3_rowOf_0 at h
      show sf_G p l e (headSpec wsX3_rowOf ({ frames := 1, cells := 0, slots := 0, locals := 23 })).room s m args below meth c (sf_Qi D vwCl q dA KX (sf_EX q tv ta tb) below args s r τ) 6 D vwCl q dA KX σ 0 [(0, .ref (q 27)), (1, .ref (q 1)), (2, .int u0), (3, .int u1)] []
      refine sf_aload_n (i := 0) (j := 0) X dX3_rowOf_0 rfl rfl rfl ?_
      refine sf_getR (C := RX3) (T := TX3) (N := 5) (ci := 3) (j := 3) (k' := 35) X (fun w h => sf_memc (inX3 w h)) rfl rfl (by decide) (X.1.2.2.2.2 _ (sf_memc tw_174)) (fun _ h9 => h9) rfl dX3_rowOf_1 rfl ?_
      refine sf_iload_n (i := 2) (j := 2) X dX3_rowOf_4 rfl rfl rfl ?_
      obtain ⟨b1, h⟩ := h
      refine sf_iald X rfl b1 dX3_rowOf_5 rfl ?_
      refine sf_top (fun y2 hy2 => ?_)
      have h := h y2 hy2
      refine sf_istore (i := 4) (lv' := [(4, .int y2), (0, .ref (q 27)), (1, .ref (q 1)), (2, .int u0), (3, .int u1)]) X dX3_rowOf_6 (by decide) rfl rfl ?_
      refine sf_iconst (v := 0) X dX3_rowOf_8 sf_ic_0 rfl ?_
      refine sf_istore (i := 5) (lv' := [(5, .int (0 : Int32)), (4, .int y2), (0, .ref (q 27)), (1, .ref (q 1)), (2, .int u0), (3, .int u1)]) X dX3_rowOf_9 (by decide) rfl rfl ?_
      refine sf_loc (lv' := [(0, .ref (q 27)), (1, .ref (q 1)), (2, .int u0), (3, .int u1), (4, .int y2), (5, .int (0 : Int32))]) [2, 3, 4, 5, 1, 0] rfl ?_
      exact h
  | 1, h =>
      replace h := fe_R_X3_rowOf_1 h
      unfold tr_R_X3_rowOf_1 at h
      show sf_G p l e (headSpec wsX3_rowOf ({ frames := 1, cells := 0, slots := 0, locals := 23 })).room s m args below meth c (sf_Qi D vwCl q dA KX (sf_EX q tv ta tb) below args s r τ) 6 D vwCl q dA KX σ 11 [(0, .ref (q 27)), (1, .ref (q 1)), (2, .int u0), (3, .int u1), (4, .int u2), (5, .int u3)] []
      refine sf_iload (i := 5) (j := 5) X dX3_rowOf_11 rfl rfl ?_
      refine sf_iload_n (i := 3) (j := 3) X dX3_rowOf_13 rfl rfl rfl ?_
      refine sf_icmp_ge (tgt := 48) X dX3_rowOf_14 rfl rfl (fun c3 => ?_) (fun c3 => ?_)
      · have h := sf_ift c3 h
        refine sf_iload (i := 4) (j := 4) X dX3_rowOf_48 rfl rfl ?_
        exact sf_reti X h dX3_rowOf_50
      · have h := sf_iff c3 h
        refine sf_iload (i := 4) (j := 4) X dX3_rowOf_17 rfl rfl ?_
        refine sf_aload_n (i := 1) (j := 1) X dX3_rowOf_19 rfl rfl rfl ?_
        refine sf_iload_n (i := 2) (j := 2) X dX3_rowOf_20 rfl rfl rfl ?_
        refine sf_aload_n (i := 0) (j := 0) X dX3_rowOf_21 rfl rfl rfl ?_
        refine sf_getR (C := RX3) (T := TX3) (N := 5) (ci := 3) (j := 2) (k' := 32) X (fun w h => sf_memc (inX3 w h)) rfl rfl (by decide) (X.1.2.2.2.2 _ (sf_memc tw_173)) (fun _ h9 => h9) rfl dX3_rowOf_22 rfl ?_
        refine sf_getR (C := RX2) (T := TX2) (N := 2) (ci := 2) (j := 0) (k' := 33) X (fun w h => sf_memc (inX2 w h)) rfl rfl (by decide) (X.1.2.2.2.2 _ (sf_memc tw_160)) (fun _ h9 => h9) rfl dX3_rowOf_25 rfl ?_
        refine sf_iload (i := 5) (j := 5) X dX3_rowOf_28 rfl rfl ?_
        obtain ⟨b4, h⟩ := h
        refine sf_iald X rfl b4 dX3_rowOf_30 rfl ?_
        obtain ⟨r7, τ6, hR5, h⟩ := h
        refine sf_callVi (As := [.int u0, .int (σ 33 (sf_ix u3))]) (rest := [.int u2]) (cv := (RX0, TX0, 10)) X rfl rfl (c_X0_orderOf hq hR5) (cwV 2 X.1.2.2.2.2 (sf_gV tw_477 tw_292 tw_293 tw_42 tw_294) rfl rfl rfl ⟨rfl, hd_X0_orderOf⟩ ⟨Nat.le_of_ble_eq_true rfl, Nat.le_of_ble_eq_true rfl⟩) rfl rfl (Nat.le_of_ble_eq_true rfl) dX3_rowOf_31 rfl ?_
        refine sf_iconst (v := 2) X dX3_rowOf_34 sf_ic_2 rfl ?_
        refine sf_iload (i := 5) (j := 5) X dX3_rowOf_35 rfl rfl ?_
        refine sf_imul X dX3_rowOf_37 rfl ?_
        refine sf_ishl X dX3_rowOf_38 rfl ?_
        refine sf_iadd X dX3_rowOf_39 rfl ?_
        refine sf_top (fun y8 hy8 => ?_)
        have h := h y8 hy8
        refine sf_istore (i := 4) (lv' := [(4, .int y8), (0, .ref (q 27)), (1, .ref (q 1)), (2, .int u0), (3, .int u1), (5, .int u3)]) X dX3_rowOf_40 (by decide) rfl rfl ?_
        refine sf_iinc (i := 5) (j := 5) (d := 1) (lv' := fun y9 => [(5, .int y9), (4, .int y8), (0, .ref (q 27)), (1, .ref (q 1)), (2, .int u0), (3, .int u1)]) X dX3_rowOf_42 rfl sf_ic_1 (by decide) (fun _ => rfl) rfl (fun y9 hy9 => ?_)
        have h := h y9 hy9
        refine sf_goto (tgt := 11) X dX3_rowOf_45 rfl ?_
        refine sf_loc (lv' := [(0, .ref (q 27)), (1, .ref (q 1)), (2, .int u0), (3, .int u1), (4, .int y8), (5, .int y9)]) [2, 3, 4, 5, 1, 0] rfl ?_
        exact h
  | (_ + 2), _ => exact trivial
def tr_R_X3_lowestRow_0 (Pr : Nat → sf_St → Int32 → Int32 → Int32 → Prop) (r : Int32) (τ : sf_St) (σ : sf_St) (u0 u1 u2 : Int32) : Prop :=
  Pr 1 σ u0 (2147483647 : Int32) (0 : Int32)
def tr_R_X3_lowestRow_1 (Pr : Nat → sf_St → Int32 → Int32 → Int32 → Prop) (r : Int32) (τ : sf_St) (σ : sf_St) (u0 u1 u2 : Int32) : Prop :=
  if (σ 1 3) ≤ u2 then (r = u1 ∧ τ = σ) else (vp_in u2 7 ∧ (if (σ 34 (sf_ix u2)) = (-1 : Int32) then (∃ (r7 : Int32) (τ6 : sf_St), R_X3_rowOf σ u2 u0 r7 τ6 ∧ (∀ y8 : Int32, y8 = (if r7 < u1 then r7 else u1) → (∀ y9 : Int32, y9 = u2 + (1 : Int32) → (Pr 1 τ6 u0 y8 y9)))) else (∀ y4 : Int32, y4 = u2 + (1 : Int32) → (Pr 1 σ u0 u1 y4))))
def fn_R_X3_lowestRow (Pr : Nat → sf_St → Int32 → Int32 → Int32 → Prop) (r : Int32) (τ : sf_St) (t : Nat) (σ : sf_St) (u0 u1 u2 : Int32) : Prop := match t with
  | 0 => tr_R_X3_lowestRow_0 Pr r τ σ u0 u1 u2
  | 1 => tr_R_X3_lowestRow_1 Pr r τ σ u0 u1 u2
  | _ => False
def Rn_R_X3_lowestRow (t : Nat) (σ : sf_St) (u0 u1 u2 : Int32) (r : Int32) (τ : sf_St) : Prop := ∀ Pr : Nat → sf_St → Int32 → Int32 → Int32 → Prop, (∀ (t : Nat) (σ : sf_St) (u0 u1 u2 : Int32), fn_R_X3_lowestRow Pr r τ t σ u0 u1 u2 → Pr t σ u0 u1 u2) → Pr t σ u0 u1 u2
def R_X3_lowestRow (σ : sf_St) (u0 : Int32) (r : Int32) (τ : sf_St) : Prop := Rn_R_X3_lowestRow 0 σ u0 0 0 r τ
theorem fe_R_X3_lowestRow_0 {Pr : Nat → sf_St → Int32 → Int32 → Int32 → Prop} {r : Int32} {τ σ : sf_St} {u0 u1 u2 : Int32} (h : fn_R_X3_lowestRow Pr r τ 0 σ u0 u1 u2) : tr_R_X3_lowestRow_0 Pr r τ σ u0 u1 u2 := h
theorem mo_R_X3_lowestRow_0 {Pr Pr' : Nat → sf_St → Int32 → Int32 → Int32 → Prop} {r : Int32} {τ σ : sf_St} {u0 u1 u2 : Int32} (hP : ∀ (t : Nat) (σ : sf_St) (u0 u1 u2 : Int32), Pr t σ u0 u1 u2 → Pr' t σ u0 u1 u2) (h : tr_R_X3_lowestRow_0 Pr r τ σ u0 u1 u2) : tr_R_X3_lowestRow_0 Pr' r τ σ u0 u1 u2 := by
  unfold tr_R_X3_lowestRow_0 at h ⊢
  exact hP _ _ _ _ _ h
theorem ru_R_X3_lowestRow_0 {r : Int32} {τ σ : sf_St} {u0 u1 u2 : Int32} (h : tr_R_X3_lowestRow_0 (fun t σ u0 u1 u2 => Rn_R_X3_lowestRow t σ u0 u1 u2 r τ) r τ σ u0 u1 u2) : Rn_R_X3_lowestRow 0 σ u0 u1 u2 r τ := fun Pr hP => hP 0 σ u0 u1 u2 (mo_R_X3_lowestRow_0 (fun _ _ _ _ _ h => h Pr hP) h)
theorem fe_R_X3_lowestRow_1 {Pr : Nat → sf_St → Int32 → Int32 → Int32 → Prop} {r : Int32} {τ σ : sf_St} {u0 u1 u2 : Int32} (h : fn_R_X3_lowestRow Pr r τ 1 σ u0 u1 u2) : tr_R_X3_lowestRow_1 Pr r τ σ u0 u1 u2 := h
theorem mo_R_X3_lowestRow_1 {Pr Pr' : Nat → sf_St → Int32 → Int32 → Int32 → Prop} {r : Int32} {τ σ : sf_St} {u0 u1 u2 : Int32} (hP : ∀ (t : Nat) (σ : sf_St) (u0 u1 u2 : Int32), Pr t σ u0 u1 u2 → Pr' t σ u0 u1 u2) (h : tr_R_X3_lowestRow_1 Pr r τ σ u0 u1 u2) : tr_R_X3_lowestRow_1 Pr' r τ σ u0 u1 u2 := by
  unfold tr_R_X3_lowestRow_1 at h ⊢
  refine sf_mif (fun h => ?_) (fun h => ?_) h
  · exact h
  · refine And.imp id (fun h => ?_) h
    refine sf_mif (fun h => ?_) (fun h => ?_) h
    · refine Exists.imp (fun _ h => Exists.imp (fun _ h => And.imp id (fun h => ?_) h) h) h
      intro y8 hy8
      have h := h y8 hy8
      intro y9 hy9
      have h := h y9 hy9
      exact hP _ _ _ _ _ h
    · intro y4 hy4
      have h := h y4 hy4
      exact hP _ _ _ _ _ h
theorem ru_R_X3_lowestRow_1 {r : Int32} {τ σ : sf_St} {u0 u1 u2 : Int32} (h : tr_R_X3_lowestRow_1 (fun t σ u0 u1 u2 => Rn_R_X3_lowestRow t σ u0 u1 u2 r τ) r τ σ u0 u1 u2) : Rn_R_X3_lowestRow 1 σ u0 u1 u2 r τ := fun Pr hP => hP 1 σ u0 u1 u2 (mo_R_X3_lowestRow_1 (fun _ _ _ _ _ h => h Pr hP) h)
set_option maxHeartbeats 4000000 in
set_option maxRecDepth 100000 in
theorem c_X3_lowestRow {l : Launch} {D : va_G} {q : Nat → Nat} {dA : Nat → ClassId} {tv ta tb : Nat} (hq : sf_inj q KX) {σ τ : sf_St} {u0 : Int32} {r : Int32} (h : R_X3_lowestRow σ u0 r τ) : sf_Mi l yX3_lowestRow wsX3_lowestRow ({ frames := 2, cells := 0, slots := 0, locals := 48 }) D vwCl q dA KX (sf_EX q tv ta tb) [.ref (q 27), .ref (q 1), .int u0] σ r τ := by
  refine sf_meti (cc := cX3_lowestRow) (maxL := 5) (ret := (some .int)) (own := RX3) (by decide +kernel) rfl rfl hq sf_EXk (Nat.le_of_ble_eq_true rfl) ?_
  intro p e s m args below meth c X
  have hT := X.2.2.2.1.2.1
  refine sf_loc (lv' := [(0, .ref (q 27)), (1, .ref (q 1)), (2, .int u0)]) [0, 1, 2] rfl ?_
  refine h (fun t σ u0 u1 u2 => match t with
    | 0 => sf_G p l e (headSpec wsX3_lowestRow ({ frames := 2, cells := 0, slots := 0, locals := 48 })).room s m args below meth c (sf_Qi D vwCl q dA KX (sf_EX q tv ta tb) below args s r τ) 5 D vwCl q dA KX σ 0 [(0, .ref (q 27)), (1, .ref (q 1)), (2, .int u0)] []
    | 1 => sf_G p l e (headSpec wsX3_lowestRow ({ frames := 2, cells := 0, slots := 0, locals := 48 })).room s m args below meth c (sf_Qi D vwCl q dA KX (sf_EX q tv ta tb) below args s r τ) 5 D vwCl q dA KX σ 6 [(0, .ref (q 27)), (1, .ref (q 1)), (2, .int u0), (3, .int u1), (4, .int u2)] []
    | _ => True) ?_
  intro t σ u0 u1 u2 h
  match t, h with
  | 0, h =>
      replace h := fe_R_X3_lowestRow_0 h
      unfold tr_R_X3_lowestRow_0 at h
      show sf_G p l e (headSpec wsX3_lowestRow ({ frames := 2, cells := 0, slots := 0, locals := 48 })).room s m args below meth c (sf_Qi D vwCl q dA KX (sf_EX q tv ta tb) below args s r τ) 5 D vwCl q dA KX σ 0 [(0, .ref (q 27)), (1, .ref (q 1)), (2, .int u0)] []
      refine sf_ldc (v := 2147483647) X (X.1.2.2.2.2 _ (sf_memc tw_168)) dX3_lowestRow_0 rfl ?_
      refine sf_istore_n (i := 3) (lv' := [(3, .int (2147483647 : Int32)), (0, .ref (q 27)), (1, .ref (q 1)), (2, .int u0)]) X dX3_lowestRow_2 rfl (by decide) rfl rfl ?_
      refine sf_iconst (v := 0) X dX3_lowestRow_3 sf_ic_0 rfl ?_
      refine sf_istore (i := 4) (lv' := [(4, .int (0 : Int32)), (3, .int (2147483647 : Int32)), (0, .ref (q 27)), (1, .ref (q 1)), (2, .int u0)]) X dX3_lowestRow_4 (by decide) rfl rfl ?_
      refine sf_loc (lv' := [(0, .ref (q 27)), (1, .ref (q 1)), (2, .int u0), (3, .int (2147483647 : Int32)), (4, .int (0 : Int32))]) [2, 3, 4, 1, 0] rfl ?_
      exact h
  | 1, h =>
      replace h := fe_R_X3_lowestRow_1 h
      unfold tr_R_X3_lowestRow_1 at h
      show sf_G p l e (headSpec wsX3_lowestRow ({ frames := 2, cells := 0, slots := 0, locals := 48 })).room s m args below meth c (sf_Qi D vwCl q dA KX (sf_EX q tv ta tb) below args s r τ) 5 D vwCl q dA KX σ 6 [(0, .ref (q 27)), (1, .ref (q 1)), (2, .int u0), (3, .int u1), (4, .int u2)] []
      refine sf_iload (i := 4) (j := 4) X dX3_lowestRow_6 rfl rfl ?_
      refine sf_aload_n (i := 1) (j := 1) X dX3_lowestRow_8 rfl rfl rfl ?_
      refine sf_getI (C := RX0) (T := TX0) (N := 10) (ci := 0) (j := 3) X (fun w h => sf_memc (inX0 w h)) rfl rfl (by decide) (X.1.2.2.2.2 _ (sf_memc tw_84)) (fun _ h9 => h9) rfl dX3_lowestRow_9 rfl ?_
      refine sf_icmp_ge (tgt := 48) X dX3_lowestRow_12 rfl rfl (fun c1 => ?_) (fun c1 => ?_)
      · have h := sf_ift c1 h
        refine sf_iload_n (i := 3) (j := 3) X dX3_lowestRow_48 rfl rfl rfl ?_
        exact sf_reti X h dX3_lowestRow_49
      · have h := sf_iff c1 h
        refine sf_aload_n (i := 0) (j := 0) X dX3_lowestRow_15 rfl rfl rfl ?_
        refine sf_getR (C := RX3) (T := TX3) (N := 5) (ci := 3) (j := 2) (k' := 32) X (fun w h => sf_memc (inX3 w h)) rfl rfl (by decide) (X.1.2.2.2.2 _ (sf_memc tw_173)) (fun _ h9 => h9) rfl dX3_lowestRow_16 rfl ?_
        refine sf_getR (C := RX2) (T := TX2) (N := 2) (ci := 2) (j := 1) (k' := 34) X (fun w h => sf_memc (inX2 w h)) rfl rfl (by decide) (X.1.2.2.2.2 _ (sf_memc tw_162)) (fun _ h9 => h9) rfl dX3_lowestRow_19 rfl ?_
        refine sf_iload (i := 4) (j := 4) X dX3_lowestRow_22 rfl rfl ?_
        obtain ⟨b2, h⟩ := h
        refine sf_iald X rfl b2 dX3_lowestRow_24 rfl ?_
        refine sf_iconst (v := (-1)) X dX3_lowestRow_25 sf_ic_m1 rfl ?_
        refine sf_icmp_ne (tgt := 42) X dX3_lowestRow_26 rfl rfl (fun c3 => ?_) (fun c3 => ?_)
        · have h := sf_iff c3 h
          refine sf_iinc (i := 4) (j := 4) (d := 1) (lv' := fun y4 => [(4, .int y4), (0, .ref (q 27)), (1, .ref (q 1)), (2, .int u0), (3, .int u1)]) X dX3_lowestRow_42 rfl sf_ic_1 (by decide) (fun _ => rfl) rfl (fun y4 hy4 => ?_)
          have h := h y4 hy4
          refine sf_goto (tgt := 6) X dX3_lowestRow_45 rfl ?_
          refine sf_loc (lv' := [(0, .ref (q 27)), (1, .ref (q 1)), (2, .int u0), (3, .int u1), (4, .int y4)]) [1, 2, 3, 4, 0] rfl ?_
          exact h
        · have h := sf_ift c3 h
          refine sf_iload_n (i := 3) (j := 3) X dX3_lowestRow_29 rfl rfl rfl ?_
          refine sf_aload_n (i := 0) (j := 0) X dX3_lowestRow_30 rfl rfl rfl ?_
          refine sf_aload_n (i := 1) (j := 1) X dX3_lowestRow_31 rfl rfl rfl ?_
          refine sf_iload (i := 4) (j := 4) X dX3_lowestRow_32 rfl rfl ?_
          refine sf_iload_n (i := 2) (j := 2) X dX3_lowestRow_34 rfl rfl rfl ?_
          obtain ⟨r7, τ6, hR5, h⟩ := h
          refine sf_callVi (As := [.ref (q 1), .int u2, .int u0]) (rest := [.int u1]) (cv := (RX3, TX3, 5)) X rfl rfl (c_X3_rowOf hq hR5) (cwV 3 X.1.2.2.2.2 (sf_gV tw_473 tw_475 tw_8 tw_44 tw_476) rfl rfl rfl ⟨rfl, hd_X3_rowOf⟩ ⟨Nat.le_of_ble_eq_true rfl, Nat.le_of_ble_eq_true rfl⟩) rfl rfl (Nat.le_of_ble_eq_true rfl) dX3_lowestRow_35 rfl ?_
          refine sf_mmin X (X.1.2.2.2.2 _ (sf_memc tw_478)) (X.1.2.2.2.2 _ (sf_memc tw_393)) (X.1.2.2.2.2 _ (sf_memc tw_50)) (X.1.2.2.2.2 _ (sf_memc tw_394)) (Nat.le_of_ble_eq_true rfl) (Nat.le_of_ble_eq_true rfl) dX3_lowestRow_38 rfl ?_
          refine sf_top (fun y8 hy8 => ?_)
          have h := h y8 hy8
          refine sf_istore_n (i := 3) (lv' := [(3, .int y8), (0, .ref (q 27)), (1, .ref (q 1)), (2, .int u0), (4, .int u2)]) X dX3_lowestRow_41 rfl (by decide) rfl rfl ?_
          refine sf_iinc (i := 4) (j := 4) (d := 1) (lv' := fun y9 => [(4, .int y9), (3, .int y8), (0, .ref (q 27)), (1, .ref (q 1)), (2, .int u0)]) X dX3_lowestRow_42 rfl sf_ic_1 (by decide) (fun _ => rfl) rfl (fun y9 hy9 => ?_)
          have h := h y9 hy9
          refine sf_goto (tgt := 6) X dX3_lowestRow_45 rfl ?_
          refine sf_loc (lv' := [(0, .ref (q 27)), (1, .ref (q 1)), (2, .int u0), (3, .int y8), (4, .int y9)]) [2, 3, 4, 1, 0] rfl ?_
          exact h
  | (_ + 2), _ => exact trivial
def tr_R_X3_lower_0 (Pr : Nat → sf_St → Int32 → Int32 → Int32 → Prop) (τ : sf_St) (σ : sf_St) (u0 u1 u2 : Int32) : Prop :=
  vp_in u0 7 ∧ (∀ τ2 : sf_St, τ2 = sf_up σ 28 (sf_ix u0) u1 → (∀ y3 : Int32, y3 = (u0 + (1 : Int32)) → (Pr 1 τ2 u0 u1 y3)))
def tr_R_X3_lower_1 (Pr : Nat → sf_St → Int32 → Int32 → Int32 → Prop) (τ : sf_St) (σ : sf_St) (u0 u1 u2 : Int32) : Prop :=
  if (7 : Int32) ≤ u2 then (∀ τ5 : sf_St, τ5 = sf_up σ 27 4 (2147483647 : Int32) → (τ = τ5)) else (vp_in u2 7 ∧ (∀ τ7 : sf_St, τ7 = sf_up σ 28 (sf_ix u2) (2147483647 : Int32) → (∀ y8 : Int32, y8 = u2 + (1 : Int32) → (Pr 1 τ7 u0 u1 y8))))
def fn_R_X3_lower (Pr : Nat → sf_St → Int32 → Int32 → Int32 → Prop) (τ : sf_St) (t : Nat) (σ : sf_St) (u0 u1 u2 : Int32) : Prop := match t with
  | 0 => tr_R_X3_lower_0 Pr τ σ u0 u1 u2
  | 1 => tr_R_X3_lower_1 Pr τ σ u0 u1 u2
  | _ => False
def Rn_R_X3_lower (t : Nat) (σ : sf_St) (u0 u1 u2 : Int32) (τ : sf_St) : Prop := ∀ Pr : Nat → sf_St → Int32 → Int32 → Int32 → Prop, (∀ (t : Nat) (σ : sf_St) (u0 u1 u2 : Int32), fn_R_X3_lower Pr τ t σ u0 u1 u2 → Pr t σ u0 u1 u2) → Pr t σ u0 u1 u2
def R_X3_lower (σ : sf_St) (u0 u1 : Int32) (τ : sf_St) : Prop := Rn_R_X3_lower 0 σ u0 u1 0 τ
theorem fe_R_X3_lower_0 {Pr : Nat → sf_St → Int32 → Int32 → Int32 → Prop} {τ σ : sf_St} {u0 u1 u2 : Int32} (h : fn_R_X3_lower Pr τ 0 σ u0 u1 u2) : tr_R_X3_lower_0 Pr τ σ u0 u1 u2 := h
theorem mo_R_X3_lower_0 {Pr Pr' : Nat → sf_St → Int32 → Int32 → Int32 → Prop} {τ σ : sf_St} {u0 u1 u2 : Int32} (hP : ∀ (t : Nat) (σ : sf_St) (u0 u1 u2 : Int32), Pr t σ u0 u1 u2 → Pr' t σ u0 u1 u2) (h : tr_R_X3_lower_0 Pr τ σ u0 u1 u2) : tr_R_X3_lower_0 Pr' τ σ u0 u1 u2 := by
  unfold tr_R_X3_lower_0 at h ⊢
  refine And.imp id (fun h => ?_) h
  intro τ2 hτ2
  have h := h τ2 hτ2
  intro y3 hy3
  have h := h y3 hy3
  exact hP _ _ _ _ _ h
theorem ru_R_X3_lower_0 {τ σ : sf_St} {u0 u1 u2 : Int32} (h : tr_R_X3_lower_0 (fun t σ u0 u1 u2 => Rn_R_X3_lower t σ u0 u1 u2 τ) τ σ u0 u1 u2) : Rn_R_X3_lower 0 σ u0 u1 u2 τ := fun Pr hP => hP 0 σ u0 u1 u2 (mo_R_X3_lower_0 (fun _ _ _ _ _ h => h Pr hP) h)
theorem fe_R_X3_lower_1 {Pr : Nat → sf_St → Int32 → Int32 → Int32 → Prop} {τ σ : sf_St} {u0 u1 u2 : Int32} (h : fn_R_X3_lower Pr τ 1 σ u0 u1 u2) : tr_R_X3_lower_1 Pr τ σ u0 u1 u2 := h
theorem mo_R_X3_lower_1 {Pr Pr' : Nat → sf_St → Int32 → Int32 → Int32 → Prop} {τ σ : sf_St} {u0 u1 u2 : Int32} (hP : ∀ (t : Nat) (σ : sf_St) (u0 u1 u2 : Int32), Pr t σ u0 u1 u2 → Pr' t σ u0 u1 u2) (h : tr_R_X3_lower_1 Pr τ σ u0 u1 u2) : tr_R_X3_lower_1 Pr' τ σ u0 u1 u2 := by
  unfold tr_R_X3_lower_1 at h ⊢
  refine sf_mif (fun h => ?_) (fun h => ?_) h
  · intro τ5 hτ5
    have h := h τ5 hτ5
    exact h
  · refine And.imp id (fun h => ?_) h
    intro τ7 hτ7
    have h := h τ7 hτ7
    intro y8 hy8
    have h := h y8 hy8
    exact hP _ _ _ _ _ h
theorem ru_R_X3_lower_1 {τ σ : sf_St} {u0 u1 u2 : Int32} (h : tr_R_X3_lower_1 (fun t σ u0 u1 u2 => Rn_R_X3_lower t σ u0 u1 u2 τ) τ σ u0 u1 u2) : Rn_R_X3_lower 1 σ u0 u1 u2 τ := fun Pr hP => hP 1 σ u0 u1 u2 (mo_R_X3_lower_1 (fun _ _ _ _ _ h => h Pr hP) h)
set_option maxHeartbeats 4000000 in
set_option maxRecDepth 100000 in
theorem c_X3_lower {l : Launch} {D : va_G} {q : Nat → Nat} {dA : Nat → ClassId} {tv ta tb : Nat} (hq : sf_inj q KX) {σ τ : sf_St} {u0 u1 : Int32} (h : R_X3_lower σ u0 u1 τ) : sf_Mv l yX3_lower wsX3_lower ({ frames := 0, cells := 0, slots := 0, locals := 0 }) D vwCl q dA KX (sf_EX q tv ta tb) [.ref (q 27), .int u0, .int u1] σ τ := by
  refine sf_metv (cc := cX3_lower) (maxL := 4) (ret := none) (own := RX3) (by decide +kernel) rfl rfl hq sf_EXk (Nat.le_of_ble_eq_true rfl) ?_
  intro p e s m args below meth c X
  have hT := X.2.2.2.1.2.1
  refine sf_loc (lv' := [(0, .ref (q 27)), (1, .int u0), (2, .int u1)]) [0, 1, 2] rfl ?_
  refine h (fun t σ u0 u1 u2 => match t with
    | 0 => sf_G p l e (headSpec wsX3_lower ({ frames := 0, cells := 0, slots := 0, locals := 0 })).room s m args below meth c (sf_Qv D vwCl q dA KX (sf_EX q tv ta tb) below args s τ) 4 D vwCl q dA KX σ 0 [(0, .ref (q 27)), (1, .int u0), (2, .int u1)] []
    | 1 => sf_G p l e (headSpec wsX3_lower ({ frames := 0, cells := 0, slots := 0, locals := 0 })).room s m args below meth c (sf_Qv D vwCl q dA KX (sf_EX q tv ta tb) below args s τ) 4 D vwCl q dA KX σ 11 [(0, .ref (q 27)), (1, .int u0), (2, .int u1), (3, .int u2)] []
    | _ => True) ?_
  intro t σ u0 u1 u2 h
  match t, h with
  | 0, h =>
      replace h := fe_R_X3_lower_0 h
      unfold tr_R_X3_lower_0 at h
      show sf_G p l e (headSpec wsX3_lower ({ frames := 0, cells := 0, slots := 0, locals := 0 })).room s m args below meth c (sf_Qv D vwCl q dA KX (sf_EX q tv ta tb) below args s τ) 4 D vwCl q dA KX σ 0 [(0, .ref (q 27)), (1, .int u0), (2, .int u1)] []
      refine sf_aload_n (i := 0) (j := 0) X dX3_lower_0 rfl rfl rfl ?_
      refine sf_getR (C := RX3) (T := TX3) (N := 5) (ci := 3) (j := 0) (k' := 28) X (fun w h => sf_memc (inX3 w h)) rfl rfl (by decide) (X.1.2.2.2.2 _ (sf_memc tw_169)) (fun _ h9 => h9) rfl dX3_lower_1 rfl ?_
      refine sf_iload_n (i := 1) (j := 1) X dX3_lower_4 rfl rfl rfl ?_
      refine sf_iload_n (i := 2) (j := 2) X dX3_lower_5 rfl rfl rfl ?_
      obtain ⟨b1, h⟩ := h
      refine sf_iast X rfl b1 dX3_lower_6 rfl (fun τ2 hτ2 => ?_)
      have h := h τ2 hτ2
      refine sf_iload_n (i := 1) (j := 1) X dX3_lower_7 rfl rfl rfl ?_
      refine sf_iconst (v := 1) X dX3_lower_8 sf_ic_1 rfl ?_
      refine sf_iadd X dX3_lower_9 rfl ?_
      refine sf_top (fun y3 hy3 => ?_)
      have h := h y3 hy3
      refine sf_istore_n (i := 3) (lv' := [(3, .int y3), (0, .ref (q 27)), (1, .int u0), (2, .int u1)]) X dX3_lower_10 rfl (by decide) rfl rfl ?_
      refine sf_loc (lv' := [(0, .ref (q 27)), (1, .int u0), (2, .int u1), (3, .int y3)]) [1, 2, 3, 0] rfl ?_
      exact h
  | 1, h =>
      replace h := fe_R_X3_lower_1 h
      unfold tr_R_X3_lower_1 at h
      show sf_G p l e (headSpec wsX3_lower ({ frames := 0, cells := 0, slots := 0, locals := 0 })).room s m args below meth c (sf_Qv D vwCl q dA KX (sf_EX q tv ta tb) below args s τ) 4 D vwCl q dA KX σ 11 [(0, .ref (q 27)), (1, .int u0), (2, .int u1), (3, .int u2)] []
      refine sf_iload_n (i := 3) (j := 3) X dX3_lower_11 rfl rfl rfl ?_
      refine sf_bipush (v := 7) X dX3_lower_12 sf_bc_7 rfl ?_
      refine sf_icmp_ge (tgt := 31) X dX3_lower_14 rfl rfl (fun c4 => ?_) (fun c4 => ?_)
      · have h := sf_ift c4 h
        refine sf_aload_n (i := 0) (j := 0) X dX3_lower_31 rfl rfl rfl ?_
        refine sf_ldc (v := 2147483647) X (X.1.2.2.2.2 _ (sf_memc tw_168)) dX3_lower_32 rfl ?_
        refine sf_putI (C := RX3) (T := TX3) (N := 5) (ci := 3) (j := 4) (ty := .int) X (fun w h => sf_memc (inX3 w h)) rfl rfl (by decide) (X.1.2.2.2.2 _ (sf_memc tw_175)) (fun _ h9 => h9) tyX3 tyX3_ok nmX3 rfl (by decide +kernel) rfl rfl rfl dX3_lower_34 rfl (fun τ5 hτ5 => ?_)
        have h := h τ5 hτ5
        exact sf_retv X h dX3_lower_37
      · have h := sf_iff c4 h
        refine sf_aload_n (i := 0) (j := 0) X dX3_lower_17 rfl rfl rfl ?_
        refine sf_getR (C := RX3) (T := TX3) (N := 5) (ci := 3) (j := 0) (k' := 28) X (fun w h => sf_memc (inX3 w h)) rfl rfl (by decide) (X.1.2.2.2.2 _ (sf_memc tw_169)) (fun _ h9 => h9) rfl dX3_lower_18 rfl ?_
        refine sf_iload_n (i := 3) (j := 3) X dX3_lower_21 rfl rfl rfl ?_
        refine sf_ldc (v := 2147483647) X (X.1.2.2.2.2 _ (sf_memc tw_168)) dX3_lower_22 rfl ?_
        obtain ⟨b6, h⟩ := h
        refine sf_iast X rfl b6 dX3_lower_24 rfl (fun τ7 hτ7 => ?_)
        have h := h τ7 hτ7
        refine sf_iinc (i := 3) (j := 3) (d := 1) (lv' := fun y8 => [(3, .int y8), (0, .ref (q 27)), (1, .int u0), (2, .int u1)]) X dX3_lower_25 rfl sf_ic_1 (by decide) (fun _ => rfl) rfl (fun y8 hy8 => ?_)
        have h := h y8 hy8
        refine sf_goto (tgt := 11) X dX3_lower_28 rfl ?_
        refine sf_loc (lv' := [(0, .ref (q 27)), (1, .int u0), (2, .int u1), (3, .int y8)]) [1, 2, 3, 0] rfl ?_
        exact h
  | (_ + 2), _ => exact trivial
def tr_R_X2_orderSign_0 (na nn : Nat) (Pr : Nat → sf_St → Int32 → Int32 → Int32 → Int32 → Int32 → Prop) (r : Int32) (τ : sf_St) (σ : sf_St) (u0 u1 u2 u3 u4 : Int32) : Prop :=
  vp_in u0 7 ∧ (Pr 1 σ u0 u1 (1 : Int32) (0 : Int32) 0)
def tr_R_X2_orderSign_1 (na nn : Nat) (Pr : Nat → sf_St → Int32 → Int32 → Int32 → Int32 → Int32 → Prop) (r : Int32) (τ : sf_St) (σ : sf_St) (u0 u1 u2 u3 u4 : Int32) : Prop :=
  vp_in u0 7 ∧ (if (σ 1 3) ≤ u3 then (r = u2 ∧ τ = σ) else (if u3 = u1 then (∀ y5 : Int32, y5 = u3 + (1 : Int32) → (Pr 1 σ u0 u1 u2 y5 0)) else (vp_in u3 7 ∧ (if (σ (10 + sf_ix u0) (sf_ix u3)) = (0 : Int32) then (∀ y8 : Int32, y8 = u3 + (1 : Int32) → (Pr 1 σ u0 u1 u2 y8 0)) else (Pr 2 σ u0 u1 u2 u3 (0 : Int32))))))
def tr_R_X2_orderSign_2 (na nn : Nat) (Pr : Nat → sf_St → Int32 → Int32 → Int32 → Int32 → Int32 → Prop) (r : Int32) (τ : sf_St) (σ : sf_St) (u0 u1 u2 u3 u4 : Int32) : Prop :=
  vp_in u0 7 ∧ (if u3 ≤ u4 then (∀ y11 : Int32, y11 = u3 + (1 : Int32) → (Pr 1 σ u0 u1 u2 y11 0)) else (if u4 = u1 then (∀ y13 : Int32, y13 = u4 + (1 : Int32) → (Pr 2 σ u0 u1 u2 u3 y13)) else (vp_in u4 7 ∧ (if (σ (10 + sf_ix u0) (sf_ix u4)) = (0 : Int32) then (∀ y16 : Int32, y16 = u4 + (1 : Int32) → (Pr 2 σ u0 u1 u2 u3 y16)) else (vp_in u4 7 ∧ (vp_in u3 7 ∧ (if (σ nn (sf_ix u4)) ≤ (σ nn (sf_ix u3)) then (∀ y20 : Int32, y20 = u4 + (1 : Int32) → (Pr 2 σ u0 u1 u2 u3 y20)) else (∀ y21 : Int32, y21 = (-u2) → (∀ y22 : Int32, y22 = u4 + (1 : Int32) → (Pr 2 σ u0 u1 y21 u3 y22))))))))))
def fn_R_X2_orderSign (na nn : Nat) (Pr : Nat → sf_St → Int32 → Int32 → Int32 → Int32 → Int32 → Prop) (r : Int32) (τ : sf_St) (t : Nat) (σ : sf_St) (u0 u1 u2 u3 u4 : Int32) : Prop := match t with
  | 0 => tr_R_X2_orderSign_0 na nn Pr r τ σ u0 u1 u2 u3 u4
  | 1 => tr_R_X2_orderSign_1 na nn Pr r τ σ u0 u1 u2 u3 u4
  | 2 => tr_R_X2_orderSign_2 na nn Pr r τ σ u0 u1 u2 u3 u4
  | _ => False
def Rn_R_X2_orderSign (na nn : Nat) (t : Nat) (σ : sf_St) (u0 u1 u2 u3 u4 : Int32) (r : Int32) (τ : sf_St) : Prop := ∀ Pr : Nat → sf_St → Int32 → Int32 → Int32 → Int32 → Int32 → Prop, (∀ (t : Nat) (σ : sf_St) (u0 u1 u2 u3 u4 : Int32), fn_R_X2_orderSign na nn Pr r τ t σ u0 u1 u2 u3 u4 → Pr t σ u0 u1 u2 u3 u4) → Pr t σ u0 u1 u2 u3 u4
def R_X2_orderSign (na nn : Nat) (σ : sf_St) (u0 u1 : Int32) (r : Int32) (τ : sf_St) : Prop := Rn_R_X2_orderSign na nn 0 σ u0 u1 0 0 0 r τ
theorem fe_R_X2_orderSign_0 {na nn : Nat} {Pr : Nat → sf_St → Int32 → Int32 → Int32 → Int32 → Int32 → Prop} {r : Int32} {τ σ : sf_St} {u0 u1 u2 u3 u4 : Int32} (h : fn_R_X2_orderSign na nn Pr r τ 0 σ u0 u1 u2 u3 u4) : tr_R_X2_orderSign_0 na nn Pr r τ σ u0 u1 u2 u3 u4 := h
theorem mo_R_X2_orderSign_0 {na nn : Nat} {Pr Pr' : Nat → sf_St → Int32 → Int32 → Int32 → Int32 → Int32 → Prop} {r : Int32} {τ σ : sf_St} {u0 u1 u2 u3 u4 : Int32} (hP : ∀ (t : Nat) (σ : sf_St) (u0 u1 u2 u3 u4 : Int32), Pr t σ u0 u1 u2 u3 u4 → Pr' t σ u0 u1 u2 u3 u4) (h : tr_R_X2_orderSign_0 na nn Pr r τ σ u0 u1 u2 u3 u4) : tr_R_X2_orderSign_0 na nn Pr' r τ σ u0 u1 u2 u3 u4 := by
  unfold tr_R_X2_orderSign_0 at h ⊢
  refine And.imp id (fun h => ?_) h
  exact hP _ _ _ _ _ _ _ h
theorem ru_R_X2_orderSign_0 {na nn : Nat} {r : Int32} {τ σ : sf_St} {u0 u1 u2 u3 u4 : Int32} (h : tr_R_X2_orderSign_0 na nn (fun t σ u0 u1 u2 u3 u4 => Rn_R_X2_orderSign na nn t σ u0 u1 u2 u3 u4 r τ) r τ σ u0 u1 u2 u3 u4) : Rn_R_X2_orderSign na nn 0 σ u0 u1 u2 u3 u4 r τ := fun Pr hP => hP 0 σ u0 u1 u2 u3 u4 (mo_R_X2_orderSign_0 (fun _ _ _ _ _ _ _ h => h Pr hP) h)
theorem fe_R_X2_orderSign_1 {na nn : Nat} {Pr : Nat → sf_St → Int32 → Int32 → Int32 → Int32 → Int32 → Prop} {r : Int32} {τ σ : sf_St} {u0 u1 u2 u3 u4 : Int32} (h : fn_R_X2_orderSign na nn Pr r τ 1 σ u0 u1 u2 u3 u4) : tr_R_X2_orderSign_1 na nn Pr r τ σ u0 u1 u2 u3 u4 := h
theorem mo_R_X2_orderSign_1 {na nn : Nat} {Pr Pr' : Nat → sf_St → Int32 → Int32 → Int32 → Int32 → Int32 → Prop} {r : Int32} {τ σ : sf_St} {u0 u1 u2 u3 u4 : Int32} (hP : ∀ (t : Nat) (σ : sf_St) (u0 u1 u2 u3 u4 : Int32), Pr t σ u0 u1 u2 u3 u4 → Pr' t σ u0 u1 u2 u3 u4) (h : tr_R_X2_orderSign_1 na nn Pr r τ σ u0 u1 u2 u3 u4) : tr_R_X2_orderSign_1 na nn Pr' r τ σ u0 u1 u2 u3 u4 := by
  unfold tr_R_X2_orderSign_1 at h ⊢
  refine And.imp id (fun h => ?_) h
  refine sf_mif (fun h => ?_) (fun h => ?_) h
  · exact h
  · refine sf_mif (fun h => ?_) (fun h => ?_) h
    · intro y5 hy5
      have h := h y5 hy5
      exact hP _ _ _ _ _ _ _ h
    · refine And.imp id (fun h => ?_) h
      refine sf_mif (fun h => ?_) (fun h => ?_) h
      · intro y8 hy8
        have h := h y8 hy8
        exact hP _ _ _ _ _ _ _ h
      · exact hP _ _ _ _ _ _ _ h
theorem ru_R_X2_orderSign_1 {na nn : Nat} {r : Int32} {τ σ : sf_St} {u0 u1 u2 u3 u4 : Int32} (h : tr_R_X2_orderSign_1 na nn (fun t σ u0 u1 u2 u3 u4 => Rn_R_X2_orderSign na nn t σ u0 u1 u2 u3 u4 r τ) r τ σ u0 u1 u2 u3 u4) : Rn_R_X2_orderSign na nn 1 σ u0 u1 u2 u3 u4 r τ := fun Pr hP => hP 1 σ u0 u1 u2 u3 u4 (mo_R_X2_orderSign_1 (fun _ _ _ _ _ _ _ h => h Pr hP) h)
theorem fe_R_X2_orderSign_2 {na nn : Nat} {Pr : Nat → sf_St → Int32 → Int32 → Int32 → Int32 → Int32 → Prop} {r : Int32} {τ σ : sf_St} {u0 u1 u2 u3 u4 : Int32} (h : fn_R_X2_orderSign na nn Pr r τ 2 σ u0 u1 u2 u3 u4) : tr_R_X2_orderSign_2 na nn Pr r τ σ u0 u1 u2 u3 u4 := h
theorem mo_R_X2_orderSign_2 {na nn : Nat} {Pr Pr' : Nat → sf_St → Int32 → Int32 → Int32 → Int32 → Int32 → Prop} {r : Int32} {τ σ : sf_St} {u0 u1 u2 u3 u4 : Int32} (hP : ∀ (t : Nat) (σ : sf_St) (u0 u1 u2 u3 u4 : Int32), Pr t σ u0 u1 u2 u3 u4 → Pr' t σ u0 u1 u2 u3 u4) (h : tr_R_X2_orderSign_2 na nn Pr r τ σ u0 u1 u2 u3 u4) : tr_R_X2_orderSign_2 na nn Pr' r τ σ u0 u1 u2 u3 u4 := by
  unfold tr_R_X2_orderSign_2 at h ⊢
  refine And.imp id (fun h => ?_) h
  refine sf_mif (fun h => ?_) (fun h => ?_) h
  · intro y11 hy11
    have h := h y11 hy11
    exact hP _ _ _ _ _ _ _ h
  · refine sf_mif (fun h => ?_) (fun h => ?_) h
    · intro y13 hy13
      have h := h y13 hy13
      exact hP _ _ _ _ _ _ _ h
    · refine And.imp id (fun h => ?_) h
      refine sf_mif (fun h => ?_) (fun h => ?_) h
      · intro y16 hy16
        have h := h y16 hy16
        exact hP _ _ _ _ _ _ _ h
      · refine And.imp id (fun h => ?_) h
        refine And.imp id (fun h => ?_) h
        refine sf_mif (fun h => ?_) (fun h => ?_) h
        · intro y20 hy20
          have h := h y20 hy20
          exact hP _ _ _ _ _ _ _ h
        · intro y21 hy21
          have h := h y21 hy21
          intro y22 hy22
          have h := h y22 hy22
          exact hP _ _ _ _ _ _ _ h
theorem ru_R_X2_orderSign_2 {na nn : Nat} {r : Int32} {τ σ : sf_St} {u0 u1 u2 u3 u4 : Int32} (h : tr_R_X2_orderSign_2 na nn (fun t σ u0 u1 u2 u3 u4 => Rn_R_X2_orderSign na nn t σ u0 u1 u2 u3 u4 r τ) r τ σ u0 u1 u2 u3 u4) : Rn_R_X2_orderSign na nn 2 σ u0 u1 u2 u3 u4 r τ := fun Pr hP => hP 2 σ u0 u1 u2 u3 u4 (mo_R_X2_orderSign_2 (fun _ _ _ _ _ _ _ h => h Pr hP) h)
set_option maxHeartbeats 4000000 in
set_option maxRecDepth 100000 in
theorem c_X2_orderSign {l : Launch} {D : va_G} {q : Nat → Nat} {dA : Nat → ClassId} {tv ta tb : Nat} (hq : sf_inj q KX) {σ τ : sf_St} {u0 u1 : Int32} {r : Int32} (h : R_X2_orderSign 33 34 σ u0 u1 r τ) : sf_Mi l yX2_orderSign wsX2_orderSign ({ frames := 0, cells := 0, slots := 0, locals := 0 }) D vwCl q dA KX (sf_EX q tv ta tb) [.ref (q 32), .ref (q 1), .int u0, .int u1] σ r τ := by
  refine sf_meti (cc := cX2_orderSign) (maxL := 8) (ret := (some .int)) (own := RX2) (by decide +kernel) rfl rfl hq sf_EXk (Nat.le_of_ble_eq_true rfl) ?_
  intro p e s m args below meth c X
  have hT := X.2.2.2.1.2.1
  refine sf_loc (lv' := [(0, .ref (q 32)), (1, .ref (q 1)), (2, .int u0), (3, .int u1)]) [0, 1, 2, 3] rfl ?_
  refine h (fun t σ u0 u1 u2 u3 u4 => match t with
    | 0 => sf_G p l e (headSpec wsX2_orderSign ({ frames := 0, cells := 0, slots := 0, locals := 0 })).room s m args below meth c (sf_Qi D vwCl q dA KX (sf_EX q tv ta tb) below args s r τ) 8 D vwCl q dA KX σ 0 [(0, .ref (q 32)), (1, .ref (q 1)), (2, .int u0), (3, .int u1)] []
    | 1 => sf_G p l e (headSpec wsX2_orderSign ({ frames := 0, cells := 0, slots := 0, locals := 0 })).room s m args below meth c (sf_Qi D vwCl q dA KX (sf_EX q tv ta tb) below args s r τ) 8 D vwCl q dA KX σ 14 [(0, .ref (q 32)), (1, .ref (q 1)), (2, .int u0), (3, .int u1), (4, .ref (q (10 + sf_ix u0))), (5, .int u2), (6, .int u3)] []
    | 2 => sf_G p l e (headSpec wsX2_orderSign ({ frames := 0, cells := 0, slots := 0, locals := 0 })).room s m args below meth c (sf_Qi D vwCl q dA KX (sf_EX q tv ta tb) below args s r τ) 8 D vwCl q dA KX σ 43 [(0, .ref (q 32)), (1, .ref (q 1)), (2, .int u0), (3, .int u1), (4, .ref (q (10 + sf_ix u0))), (5, .int u2), (6, .int u3), (7, .int u4)] []
    | _ => True) ?_
  intro t σ u0 u1 u2 u3 u4 h
  match t, h with
  | 0, h =>
      replace h := fe_R_X2_orderSign_0 h
      unfold tr_R_X2_orderSign_0 at h
      show sf_G p l e (headSpec wsX2_orderSign ({ frames := 0, cells := 0, slots := 0, locals := 0 })).room s m args below meth c (sf_Qi D vwCl q dA KX (sf_EX q tv ta tb) below args s r τ) 8 D vwCl q dA KX σ 0 [(0, .ref (q 32)), (1, .ref (q 1)), (2, .int u0), (3, .int u1)] []
      refine sf_aload_n (i := 1) (j := 1) X dX2_orderSign_0 rfl rfl rfl ?_
      refine sf_getR (C := RX0) (T := TX0) (N := 10) (ci := 0) (j := 9) (k' := 9) X (fun w h => sf_memc (inX0 w h)) rfl rfl (by decide) (X.1.2.2.2.2 _ (sf_memc tw_100)) (fun _ h9 => h9) rfl dX2_orderSign_1 rfl ?_
      refine sf_iload_n (i := 2) (j := 2) X dX2_orderSign_4 rfl rfl rfl ?_
      obtain ⟨b1, h⟩ := h
      refine sf_aald (k' := (10 + sf_ix u0)) X rfl b1 (sf_lkR b1) dX2_orderSign_5 rfl ?_
      refine sf_astore (i := 4) (lv' := [(4, .ref (q (10 + sf_ix u0))), (0, .ref (q 32)), (1, .ref (q 1)), (2, .int u0), (3, .int u1)]) X dX2_orderSign_6 (by decide) rfl rfl ?_
      refine sf_iconst (v := 1) X dX2_orderSign_8 sf_ic_1 rfl ?_
      refine sf_istore (i := 5) (lv' := [(5, .int (1 : Int32)), (4, .ref (q (10 + sf_ix u0))), (0, .ref (q 32)), (1, .ref (q 1)), (2, .int u0), (3, .int u1)]) X dX2_orderSign_9 (by decide) rfl rfl ?_
      refine sf_iconst (v := 0) X dX2_orderSign_11 sf_ic_0 rfl ?_
      refine sf_istore (i := 6) (lv' := [(6, .int (0 : Int32)), (5, .int (1 : Int32)), (4, .ref (q (10 + sf_ix u0))), (0, .ref (q 32)), (1, .ref (q 1)), (2, .int u0), (3, .int u1)]) X dX2_orderSign_12 (by decide) rfl rfl ?_
      refine sf_loc (lv' := [(0, .ref (q 32)), (1, .ref (q 1)), (2, .int u0), (3, .int u1), (4, .ref (q (10 + sf_ix u0))), (5, .int (1 : Int32)), (6, .int (0 : Int32))]) [3, 4, 5, 6, 2, 1, 0] rfl ?_
      exact h
  | 1, h =>
      replace h := fe_R_X2_orderSign_1 h
      unfold tr_R_X2_orderSign_1 at h
      show sf_G p l e (headSpec wsX2_orderSign ({ frames := 0, cells := 0, slots := 0, locals := 0 })).room s m args below meth c (sf_Qi D vwCl q dA KX (sf_EX q tv ta tb) below args s r τ) 8 D vwCl q dA KX σ 14 [(0, .ref (q 32)), (1, .ref (q 1)), (2, .int u0), (3, .int u1), (4, .ref (q (10 + sf_ix u0))), (5, .int u2), (6, .int u3)] []
      obtain ⟨b2, h⟩ := h
      refine sf_iload (i := 6) (j := 6) X dX2_orderSign_14 rfl rfl ?_
      refine sf_aload_n (i := 1) (j := 1) X dX2_orderSign_16 rfl rfl rfl ?_
      refine sf_getI (C := RX0) (T := TX0) (N := 10) (ci := 0) (j := 3) X (fun w h => sf_memc (inX0 w h)) rfl rfl (by decide) (X.1.2.2.2.2 _ (sf_memc tw_86)) (fun _ h9 => h9) rfl dX2_orderSign_17 rfl ?_
      refine sf_icmp_ge (tgt := 98) X dX2_orderSign_20 rfl rfl (fun c3 => ?_) (fun c3 => ?_)
      · have h := sf_ift c3 h
        refine sf_iload (i := 5) (j := 5) X dX2_orderSign_98 rfl rfl ?_
        exact sf_reti X h dX2_orderSign_100
      · have h := sf_iff c3 h
        refine sf_iload (i := 6) (j := 6) X dX2_orderSign_23 rfl rfl ?_
        refine sf_iload_n (i := 3) (j := 3) X dX2_orderSign_25 rfl rfl rfl ?_
        refine sf_icmp_eq (tgt := 92) X dX2_orderSign_26 rfl rfl (fun c4 => ?_) (fun c4 => ?_)
        · have h := sf_ift c4 h
          refine sf_iinc (i := 6) (j := 6) (d := 1) (lv' := fun y5 => [(6, .int y5), (0, .ref (q 32)), (1, .ref (q 1)), (2, .int u0), (3, .int u1), (4, .ref (q (10 + sf_ix u0))), (5, .int u2)]) X dX2_orderSign_92 rfl sf_ic_1 (by decide) (fun _ => rfl) rfl (fun y5 hy5 => ?_)
          have h := h y5 hy5
          refine sf_goto (tgt := 14) X dX2_orderSign_95 rfl ?_
          refine sf_loc (lv' := [(0, .ref (q 32)), (1, .ref (q 1)), (2, .int u0), (3, .int u1), (4, .ref (q (10 + sf_ix u0))), (5, .int u2), (6, .int y5)]) [1, 2, 3, 4, 5, 6, 0] rfl ?_
          exact h
        · have h := sf_iff c4 h
          refine sf_aload (i := 4) (j := 4) X dX2_orderSign_29 rfl rfl ?_
          refine sf_iload (i := 6) (j := 6) X dX2_orderSign_31 rfl rfl ?_
          obtain ⟨b6, h⟩ := h
          refine sf_iald X (sf_lkK b2) b6 dX2_orderSign_33 rfl ?_
          refine sf_if_ne (tgt := 40) X dX2_orderSign_34 rfl rfl (fun c7 => ?_) (fun c7 => ?_)
          · have h := sf_iff c7 h
            refine sf_iconst (v := 0) X dX2_orderSign_40 sf_ic_0 rfl ?_
            refine sf_istore (i := 7) (lv' := [(7, .int (0 : Int32)), (0, .ref (q 32)), (1, .ref (q 1)), (2, .int u0), (3, .int u1), (4, .ref (q (10 + sf_ix u0))), (5, .int u2), (6, .int u3)]) X dX2_orderSign_41 (by decide) rfl rfl ?_
            refine sf_loc (lv' := [(0, .ref (q 32)), (1, .ref (q 1)), (2, .int u0), (3, .int u1), (4, .ref (q (10 + sf_ix u0))), (5, .int u2), (6, .int u3), (7, .int (0 : Int32))]) [1, 2, 3, 4, 5, 6, 7, 0] rfl ?_
            exact h
          · have h := sf_ift c7 h
            refine sf_goto (tgt := 92) X dX2_orderSign_37 rfl ?_
            refine sf_iinc (i := 6) (j := 6) (d := 1) (lv' := fun y8 => [(6, .int y8), (0, .ref (q 32)), (1, .ref (q 1)), (2, .int u0), (3, .int u1), (4, .ref (q (10 + sf_ix u0))), (5, .int u2)]) X dX2_orderSign_92 rfl sf_ic_1 (by decide) (fun _ => rfl) rfl (fun y8 hy8 => ?_)
            have h := h y8 hy8
            refine sf_goto (tgt := 14) X dX2_orderSign_95 rfl ?_
            refine sf_loc (lv' := [(0, .ref (q 32)), (1, .ref (q 1)), (2, .int u0), (3, .int u1), (4, .ref (q (10 + sf_ix u0))), (5, .int u2), (6, .int y8)]) [1, 2, 3, 4, 5, 6, 0] rfl ?_
            exact h
  | 2, h =>
      replace h := fe_R_X2_orderSign_2 h
      unfold tr_R_X2_orderSign_2 at h
      show sf_G p l e (headSpec wsX2_orderSign ({ frames := 0, cells := 0, slots := 0, locals := 0 })).room s m args below meth c (sf_Qi D vwCl q dA KX (sf_EX q tv ta tb) below args s r τ) 8 D vwCl q dA KX σ 43 [(0, .ref (q 32)), (1, .ref (q 1)), (2, .int u0), (3, .int u1), (4, .ref (q (10 + sf_ix u0))), (5, .int u2), (6, .int u3), (7, .int u4)] []
      obtain ⟨b9, h⟩ := h
      refine sf_iload (i := 7) (j := 7) X dX2_orderSign_43 rfl rfl ?_
      refine sf_iload (i := 6) (j := 6) X dX2_orderSign_45 rfl rfl ?_
      refine sf_icmp_ge (tgt := 92) X dX2_orderSign_47 rfl rfl (fun c10 => ?_) (fun c10 => ?_)
      · have h := sf_ift c10 h
        refine sf_iinc (i := 6) (j := 6) (d := 1) (lv' := fun y11 => [(6, .int y11), (0, .ref (q 32)), (1, .ref (q 1)), (2, .int u0), (3, .int u1), (4, .ref (q (10 + sf_ix u0))), (5, .int u2), (7, .int u4)]) X dX2_orderSign_92 rfl sf_ic_1 (by decide) (fun _ => rfl) rfl (fun y11 hy11 => ?_)
        have h := h y11 hy11
        refine sf_goto (tgt := 14) X dX2_orderSign_95 rfl ?_
        refine sf_loc (lv' := [(0, .ref (q 32)), (1, .ref (q 1)), (2, .int u0), (3, .int u1), (4, .ref (q (10 + sf_ix u0))), (5, .int u2), (6, .int y11)]) [1, 2, 3, 4, 5, 6, 0] rfl ?_
        exact h
      · have h := sf_iff c10 h
        refine sf_iload (i := 7) (j := 7) X dX2_orderSign_50 rfl rfl ?_
        refine sf_iload_n (i := 3) (j := 3) X dX2_orderSign_52 rfl rfl rfl ?_
        refine sf_icmp_eq (tgt := 86) X dX2_orderSign_53 rfl rfl (fun c12 => ?_) (fun c12 => ?_)
        · have h := sf_ift c12 h
          refine sf_iinc (i := 7) (j := 7) (d := 1) (lv' := fun y13 => [(7, .int y13), (0, .ref (q 32)), (1, .ref (q 1)), (2, .int u0), (3, .int u1), (4, .ref (q (10 + sf_ix u0))), (5, .int u2), (6, .int u3)]) X dX2_orderSign_86 rfl sf_ic_1 (by decide) (fun _ => rfl) rfl (fun y13 hy13 => ?_)
          have h := h y13 hy13
          refine sf_goto (tgt := 43) X dX2_orderSign_89 rfl ?_
          refine sf_loc (lv' := [(0, .ref (q 32)), (1, .ref (q 1)), (2, .int u0), (3, .int u1), (4, .ref (q (10 + sf_ix u0))), (5, .int u2), (6, .int u3), (7, .int y13)]) [1, 2, 3, 4, 5, 6, 7, 0] rfl ?_
          exact h
        · have h := sf_iff c12 h
          refine sf_aload (i := 4) (j := 4) X dX2_orderSign_56 rfl rfl ?_
          refine sf_iload (i := 7) (j := 7) X dX2_orderSign_58 rfl rfl ?_
          obtain ⟨b14, h⟩ := h
          refine sf_iald X (sf_lkK b9) b14 dX2_orderSign_60 rfl ?_
          refine sf_if_eq (tgt := 86) X dX2_orderSign_61 rfl rfl (fun c15 => ?_) (fun c15 => ?_)
          · have h := sf_ift c15 h
            refine sf_iinc (i := 7) (j := 7) (d := 1) (lv' := fun y16 => [(7, .int y16), (0, .ref (q 32)), (1, .ref (q 1)), (2, .int u0), (3, .int u1), (4, .ref (q (10 + sf_ix u0))), (5, .int u2), (6, .int u3)]) X dX2_orderSign_86 rfl sf_ic_1 (by decide) (fun _ => rfl) rfl (fun y16 hy16 => ?_)
            have h := h y16 hy16
            refine sf_goto (tgt := 43) X dX2_orderSign_89 rfl ?_
            refine sf_loc (lv' := [(0, .ref (q 32)), (1, .ref (q 1)), (2, .int u0), (3, .int u1), (4, .ref (q (10 + sf_ix u0))), (5, .int u2), (6, .int u3), (7, .int y16)]) [1, 2, 3, 4, 5, 6, 7, 0] rfl ?_
            exact h
          · have h := sf_iff c15 h
            refine sf_aload_n (i := 0) (j := 0) X dX2_orderSign_64 rfl rfl rfl ?_
            refine sf_getR (C := RX2) (T := TX2) (N := 2) (ci := 2) (j := 1) (k' := 34) X (fun w h => sf_memc (inX2 w h)) rfl rfl (by decide) (X.1.2.2.2.2 _ (sf_memc tw_161)) (fun _ h9 => h9) rfl dX2_orderSign_65 rfl ?_
            refine sf_iload (i := 7) (j := 7) X dX2_orderSign_68 rfl rfl ?_
            obtain ⟨b17, h⟩ := h
            refine sf_iald X rfl b17 dX2_orderSign_70 rfl ?_
            refine sf_aload_n (i := 0) (j := 0) X dX2_orderSign_71 rfl rfl rfl ?_
            refine sf_getR (C := RX2) (T := TX2) (N := 2) (ci := 2) (j := 1) (k' := 34) X (fun w h => sf_memc (inX2 w h)) rfl rfl (by decide) (X.1.2.2.2.2 _ (sf_memc tw_161)) (fun _ h9 => h9) rfl dX2_orderSign_72 rfl ?_
            refine sf_iload (i := 6) (j := 6) X dX2_orderSign_75 rfl rfl ?_
            obtain ⟨b18, h⟩ := h
            refine sf_iald X rfl b18 dX2_orderSign_77 rfl ?_
            refine sf_icmp_le (tgt := 86) X dX2_orderSign_78 rfl rfl (fun c19 => ?_) (fun c19 => ?_)
            · have h := sf_ift c19 h
              refine sf_iinc (i := 7) (j := 7) (d := 1) (lv' := fun y20 => [(7, .int y20), (0, .ref (q 32)), (1, .ref (q 1)), (2, .int u0), (3, .int u1), (4, .ref (q (10 + sf_ix u0))), (5, .int u2), (6, .int u3)]) X dX2_orderSign_86 rfl sf_ic_1 (by decide) (fun _ => rfl) rfl (fun y20 hy20 => ?_)
              have h := h y20 hy20
              refine sf_goto (tgt := 43) X dX2_orderSign_89 rfl ?_
              refine sf_loc (lv' := [(0, .ref (q 32)), (1, .ref (q 1)), (2, .int u0), (3, .int u1), (4, .ref (q (10 + sf_ix u0))), (5, .int u2), (6, .int u3), (7, .int y20)]) [1, 2, 3, 4, 5, 6, 7, 0] rfl ?_
              exact h
            · have h := sf_iff c19 h
              refine sf_iload (i := 5) (j := 5) X dX2_orderSign_81 rfl rfl ?_
              refine sf_ineg X dX2_orderSign_83 rfl ?_
              refine sf_top (fun y21 hy21 => ?_)
              have h := h y21 hy21
              refine sf_istore (i := 5) (lv' := [(5, .int y21), (0, .ref (q 32)), (1, .ref (q 1)), (2, .int u0), (3, .int u1), (4, .ref (q (10 + sf_ix u0))), (6, .int u3), (7, .int u4)]) X dX2_orderSign_84 (by decide) rfl rfl ?_
              refine sf_iinc (i := 7) (j := 7) (d := 1) (lv' := fun y22 => [(7, .int y22), (5, .int y21), (0, .ref (q 32)), (1, .ref (q 1)), (2, .int u0), (3, .int u1), (4, .ref (q (10 + sf_ix u0))), (6, .int u3)]) X dX2_orderSign_86 rfl sf_ic_1 (by decide) (fun _ => rfl) rfl (fun y22 hy22 => ?_)
              have h := h y22 hy22
              refine sf_goto (tgt := 43) X dX2_orderSign_89 rfl ?_
              refine sf_loc (lv' := [(0, .ref (q 32)), (1, .ref (q 1)), (2, .int u0), (3, .int u1), (4, .ref (q (10 + sf_ix u0))), (5, .int y21), (6, .int u3), (7, .int y22)]) [2, 3, 4, 5, 6, 1, 7, 0] rfl ?_
              exact h
  | (_ + 3), _ => exact trivial
def R_X2_senseOfAtom (na nn sa sb sh sr : Nat) (σ : sf_St) (u0 : Int32) (r : Int32) (τ : sf_St) : Prop :=
  vp_in u0 7 ∧ (∀ y2 : Int32, y2 = (σ sa (sf_ix u0)) → (if y2 = (0 : Int32) then (r = (0 : Int32) ∧ τ = σ) else (∃ (r6 : Int32) (τ5 : sf_St), R_X2_orderSign na nn σ u0 (-1 : Int32) r6 τ5 ∧ (r = (y2 * r6) ∧ τ = τ5))))
set_option maxHeartbeats 4000000 in
set_option maxRecDepth 100000 in
theorem c_X2_senseOfAtom {l : Launch} {D : va_G} {q : Nat → Nat} {dA : Nat → ClassId} {tv ta tb : Nat} (hq : sf_inj q KX) {σ τ : sf_St} {u0 : Int32} {r : Int32} (h : R_X2_senseOfAtom 33 34 18 19 20 21 σ u0 r τ) : sf_Mi l yX2_senseOfAtom wsX2_senseOfAtom ({ frames := 1, cells := 0, slots := 0, locals := 27 }) D vwCl q dA KX (sf_EX q tv ta tb) [.ref (q 32), .ref (q 1), .ref (q 17), .int u0] σ r τ := by
  refine sf_meti (cc := cX2_senseOfAtom) (maxL := 5) (ret := (some .int)) (own := RX2) (by decide +kernel) rfl rfl hq sf_EXk (Nat.le_of_ble_eq_true rfl) ?_
  intro p e s m args below meth c X
  have hT := X.2.2.2.1.2.1
  unfold R_X2_senseOfAtom at h
  refine sf_loc (lv' := [(0, .ref (q 32)), (1, .ref (q 1)), (2, .ref (q 17)), (3, .int u0)]) [0, 1, 2, 3] rfl ?_
  refine sf_aload_n (i := 2) (j := 2) X dX2_senseOfAtom_0 rfl rfl rfl ?_
  refine sf_getR (C := RX4) (T := TX4) (N := 4) (ci := 4) (j := 0) (k' := 18) X (fun w h => sf_memc (inX4 w h)) rfl rfl (by decide) (X.1.2.2.2.2 _ (sf_memc tw_130)) (fun _ h9 => h9) rfl dX2_senseOfAtom_1 rfl ?_
  refine sf_iload_n (i := 3) (j := 3) X dX2_senseOfAtom_4 rfl rfl rfl ?_
  obtain ⟨b1, h⟩ := h
  refine sf_iald X rfl b1 dX2_senseOfAtom_5 rfl ?_
  refine sf_top (fun y2 hy2 => ?_)
  have h := h y2 hy2
  refine sf_istore (i := 4) (lv' := [(4, .int y2), (0, .ref (q 32)), (1, .ref (q 1)), (2, .ref (q 17)), (3, .int u0)]) X dX2_senseOfAtom_6 (by decide) rfl rfl ?_
  refine sf_iload (i := 4) (j := 0) X dX2_senseOfAtom_8 rfl rfl ?_
  refine sf_if_ne (tgt := 17) X dX2_senseOfAtom_10 rfl rfl (fun c3 => ?_) (fun c3 => ?_)
  · have h := sf_iff c3 h
    refine sf_iload (i := 4) (j := 0) X dX2_senseOfAtom_17 rfl rfl ?_
    refine sf_aload_n (i := 0) (j := 1) X dX2_senseOfAtom_19 rfl rfl rfl ?_
    refine sf_aload_n (i := 1) (j := 2) X dX2_senseOfAtom_20 rfl rfl rfl ?_
    refine sf_iload_n (i := 3) (j := 4) X dX2_senseOfAtom_21 rfl rfl rfl ?_
    refine sf_iconst (v := (-1)) X dX2_senseOfAtom_22 sf_ic_m1 rfl ?_
    obtain ⟨r6, τ5, hR4, h⟩ := h
    refine sf_callVi (As := [.ref (q 1), .int u0, .int (-1 : Int32)]) (rest := [.int y2]) (cv := (RX2, TX2, 2)) X rfl rfl (c_X2_orderSign hq hR4) (cwV 3 X.1.2.2.2.2 (sf_gV tw_453 tw_455 tw_6 tw_45 tw_456) rfl rfl rfl ⟨rfl, hd_X2_orderSign⟩ ⟨Nat.le_of_ble_eq_true rfl, Nat.le_of_ble_eq_true rfl⟩) rfl rfl (Nat.le_of_ble_eq_true rfl) dX2_senseOfAtom_23 rfl ?_
    refine sf_imul X dX2_senseOfAtom_26 rfl ?_
    exact sf_reti X h dX2_senseOfAtom_27
  · have h := sf_ift c3 h
    refine sf_iconst (v := 0) X dX2_senseOfAtom_13 sf_ic_0 rfl ?_
    refine sf_goto (tgt := 27) X dX2_senseOfAtom_14 rfl ?_
    exact sf_reti X h dX2_senseOfAtom_27
def R_X2_senseOfBond (na nn sa sb sh sr : Nat) (σ : sf_St) (u0 : Int32) (r : Int32) (τ : sf_St) : Prop :=
  vp_in u0 9 ∧ (∀ y2 : Int32, y2 = (σ sb (sf_ix u0)) → (if y2 = (0 : Int32) then (r = (0 : Int32) ∧ τ = σ) else (vp_in u0 9 ∧ (∀ y5 : Int32, y5 = (σ 5 (sf_ix u0)) → (vp_in u0 9 ∧ (∀ y7 : Int32, y7 = (σ 6 (sf_ix u0)) → (∃ (r10 : Int32) (τ9 : sf_St), R_X2_orderSign na nn σ y5 y7 r10 τ9 ∧ (∃ (r13 : Int32) (τ12 : sf_St), R_X2_orderSign na nn τ9 y7 y5 r13 τ12 ∧ (r = ((y2 * r10) * r13) ∧ τ = τ12)))))))))
set_option maxHeartbeats 4000000 in
set_option maxRecDepth 100000 in
theorem c_X2_senseOfBond {l : Launch} {D : va_G} {q : Nat → Nat} {dA : Nat → ClassId} {tv ta tb : Nat} (hq : sf_inj q KX) {σ τ : sf_St} {u0 : Int32} {r : Int32} (h : R_X2_senseOfBond 33 34 18 19 20 21 σ u0 r τ) : sf_Mi l yX2_senseOfBond wsX2_senseOfBond ({ frames := 1, cells := 0, slots := 0, locals := 27 }) D vwCl q dA KX (sf_EX q tv ta tb) [.ref (q 32), .ref (q 1), .ref (q 17), .int u0] σ r τ := by
  refine sf_meti (cc := cX2_senseOfBond) (maxL := 7) (ret := (some .int)) (own := RX2) (by decide +kernel) rfl rfl hq sf_EXk (Nat.le_of_ble_eq_true rfl) ?_
  intro p e s m args below meth c X
  have hT := X.2.2.2.1.2.1
  unfold R_X2_senseOfBond at h
  refine sf_loc (lv' := [(0, .ref (q 32)), (1, .ref (q 1)), (2, .ref (q 17)), (3, .int u0)]) [0, 1, 2, 3] rfl ?_
  refine sf_aload_n (i := 2) (j := 2) X dX2_senseOfBond_0 rfl rfl rfl ?_
  refine sf_getR (C := RX4) (T := TX4) (N := 4) (ci := 4) (j := 1) (k' := 19) X (fun w h => sf_memc (inX4 w h)) rfl rfl (by decide) (X.1.2.2.2.2 _ (sf_memc tw_132)) (fun _ h9 => h9) rfl dX2_senseOfBond_1 rfl ?_
  refine sf_iload_n (i := 3) (j := 3) X dX2_senseOfBond_4 rfl rfl rfl ?_
  obtain ⟨b1, h⟩ := h
  refine sf_iald X rfl b1 dX2_senseOfBond_5 rfl ?_
  refine sf_top (fun y2 hy2 => ?_)
  have h := h y2 hy2
  refine sf_istore (i := 4) (lv' := [(4, .int y2), (0, .ref (q 32)), (1, .ref (q 1)), (2, .ref (q 17)), (3, .int u0)]) X dX2_senseOfBond_6 (by decide) rfl rfl ?_
  refine sf_iload (i := 4) (j := 0) X dX2_senseOfBond_8 rfl rfl ?_
  refine sf_if_ne (tgt := 15) X dX2_senseOfBond_10 rfl rfl (fun c3 => ?_) (fun c3 => ?_)
  · have h := sf_iff c3 h
    refine sf_aload_n (i := 1) (j := 2) X dX2_senseOfBond_15 rfl rfl rfl ?_
    refine sf_getR (C := RX0) (T := TX0) (N := 10) (ci := 0) (j := 4) (k' := 5) X (fun w h => sf_memc (inX0 w h)) rfl rfl (by decide) (X.1.2.2.2.2 _ (sf_memc tw_88)) (fun _ h9 => h9) rfl dX2_senseOfBond_16 rfl ?_
    refine sf_iload_n (i := 3) (j := 4) X dX2_senseOfBond_19 rfl rfl rfl ?_
    obtain ⟨b4, h⟩ := h
    refine sf_iald X rfl b4 dX2_senseOfBond_20 rfl ?_
    refine sf_top (fun y5 hy5 => ?_)
    have h := h y5 hy5
    refine sf_istore (i := 5) (lv' := [(5, .int y5), (4, .int y2), (0, .ref (q 32)), (1, .ref (q 1)), (2, .ref (q 17)), (3, .int u0)]) X dX2_senseOfBond_21 (by decide) rfl rfl ?_
    refine sf_aload_n (i := 1) (j := 3) X dX2_senseOfBond_23 rfl rfl rfl ?_
    refine sf_getR (C := RX0) (T := TX0) (N := 10) (ci := 0) (j := 5) (k' := 6) X (fun w h => sf_memc (inX0 w h)) rfl rfl (by decide) (X.1.2.2.2.2 _ (sf_memc tw_91)) (fun _ h9 => h9) rfl dX2_senseOfBond_24 rfl ?_
    refine sf_iload_n (i := 3) (j := 5) X dX2_senseOfBond_27 rfl rfl rfl ?_
    obtain ⟨b6, h⟩ := h
    refine sf_iald X rfl b6 dX2_senseOfBond_28 rfl ?_
    refine sf_top (fun y7 hy7 => ?_)
    have h := h y7 hy7
    refine sf_istore (i := 6) (lv' := [(6, .int y7), (5, .int y5), (4, .int y2), (0, .ref (q 32)), (1, .ref (q 1)), (2, .ref (q 17)), (3, .int u0)]) X dX2_senseOfBond_29 (by decide) rfl rfl ?_
    refine sf_iload (i := 4) (j := 2) X dX2_senseOfBond_31 rfl rfl ?_
    refine sf_aload_n (i := 0) (j := 3) X dX2_senseOfBond_33 rfl rfl rfl ?_
    refine sf_aload_n (i := 1) (j := 4) X dX2_senseOfBond_34 rfl rfl rfl ?_
    refine sf_iload (i := 5) (j := 1) X dX2_senseOfBond_35 rfl rfl ?_
    refine sf_iload (i := 6) (j := 0) X dX2_senseOfBond_37 rfl rfl ?_
    obtain ⟨r10, τ9, hR8, h⟩ := h
    refine sf_callVi (As := [.ref (q 1), .int y5, .int y7]) (rest := [.int y2]) (cv := (RX2, TX2, 2)) X rfl rfl (c_X2_orderSign hq hR8) (cwV 3 X.1.2.2.2.2 (sf_gV tw_453 tw_455 tw_6 tw_45 tw_456) rfl rfl rfl ⟨rfl, hd_X2_orderSign⟩ ⟨Nat.le_of_ble_eq_true rfl, Nat.le_of_ble_eq_true rfl⟩) rfl rfl (Nat.le_of_ble_eq_true rfl) dX2_senseOfBond_39 rfl ?_
    refine sf_imul X dX2_senseOfBond_42 rfl ?_
    refine sf_aload_n (i := 0) (j := 3) X dX2_senseOfBond_43 rfl rfl rfl ?_
    refine sf_aload_n (i := 1) (j := 4) X dX2_senseOfBond_44 rfl rfl rfl ?_
    refine sf_iload (i := 6) (j := 0) X dX2_senseOfBond_45 rfl rfl ?_
    refine sf_iload (i := 5) (j := 1) X dX2_senseOfBond_47 rfl rfl ?_
    obtain ⟨r13, τ12, hR11, h⟩ := h
    refine sf_callVi (As := [.ref (q 1), .int y7, .int y5]) (rest := [.int (y2 * r10)]) (cv := (RX2, TX2, 2)) X rfl rfl (c_X2_orderSign hq hR11) (cwV 3 X.1.2.2.2.2 (sf_gV tw_453 tw_455 tw_6 tw_45 tw_456) rfl rfl rfl ⟨rfl, hd_X2_orderSign⟩ ⟨Nat.le_of_ble_eq_true rfl, Nat.le_of_ble_eq_true rfl⟩) rfl rfl (Nat.le_of_ble_eq_true rfl) dX2_senseOfBond_49 rfl ?_
    refine sf_imul X dX2_senseOfBond_52 rfl ?_
    exact sf_reti X h dX2_senseOfBond_53
  · have h := sf_ift c3 h
    refine sf_iconst (v := 0) X dX2_senseOfBond_13 sf_ic_0 rfl ?_
    exact sf_reti X h dX2_senseOfBond_14
def tr_R_X2_code_0 (sa sb sh sr : Nat) (Pr : Nat → sf_St → Int32 → Int32 → Int32 → Prop) (r : Int32) (τ : sf_St) (σ : sf_St) (u0 u1 u2 : Int32) : Prop :=
  Pr 1 σ (0 : Int32) (0 : Int32) 0
def tr_R_X2_code_1 (sa sb sh sr : Nat) (Pr : Nat → sf_St → Int32 → Int32 → Int32 → Prop) (r : Int32) (τ : sf_St) (σ : sf_St) (u0 u1 u2 : Int32) : Prop :=
  if (σ 1 3) ≤ u1 then (Pr 2 σ u0 (0 : Int32) 0) else (vp_in u1 7 ∧ (∃ (r5 : Int32) (τ4 : sf_St), R_X2_senseOfAtom 33 34 sa sb sh sr σ (σ 33 (sf_ix u1)) r5 τ4 ∧ (∀ y6 : Int32, y6 = ((((3 : Int32) * u0) + r5) + (1 : Int32)) → (∀ y7 : Int32, y7 = u1 + (1 : Int32) → (Pr 1 τ4 y6 y7 0)))))
def tr_R_X2_code_2 (sa sb sh sr : Nat) (Pr : Nat → sf_St → Int32 → Int32 → Int32 → Prop) (r : Int32) (τ : sf_St) (σ : sf_St) (u0 u1 u2 : Int32) : Prop :=
  if (σ 1 3) ≤ u1 then (r = u0 ∧ τ = σ) else (Pr 3 σ u0 u1 (0 : Int32))
def tr_R_X2_code_3 (sa sb sh sr : Nat) (Pr : Nat → sf_St → Int32 → Int32 → Int32 → Prop) (r : Int32) (τ : sf_St) (σ : sf_St) (u0 u1 u2 : Int32) : Prop :=
  if u1 ≤ u2 then (∀ y10 : Int32, y10 = u1 + (1 : Int32) → (Pr 2 σ u0 y10 0)) else (vp_in u1 7 ∧ (vp_in u2 7 ∧ (∃ (r15 : Int32) (τ14 : sf_St), R_X0_bondOf σ (σ 33 (sf_ix u1)) (σ 33 (sf_ix u2)) r15 τ14 ∧ (if r15 = (-1 : Int32) then (∀ y17 : Int32, y17 = u2 + (1 : Int32) → (Pr 3 τ14 u0 u1 y17)) else (vp_in r15 9 ∧ (if (τ14 sh (sf_ix r15)) = (0 : Int32) then (∀ y20 : Int32, y20 = u2 + (1 : Int32) → (Pr 3 τ14 u0 u1 y20)) else (∃ (r23 : Int32) (τ22 : sf_St), R_X2_senseOfBond 33 34 sa sb sh sr τ14 r15 r23 τ22 ∧ (∀ y24 : Int32, y24 = ((((3 : Int32) * u0) + r23) + (1 : Int32)) → (∀ y25 : Int32, y25 = u2 + (1 : Int32) → (Pr 3 τ22 y24 u1 y25))))))))))
def fn_R_X2_code (sa sb sh sr : Nat) (Pr : Nat → sf_St → Int32 → Int32 → Int32 → Prop) (r : Int32) (τ : sf_St) (t : Nat) (σ : sf_St) (u0 u1 u2 : Int32) : Prop := match t with
  | 0 => tr_R_X2_code_0 sa sb sh sr Pr r τ σ u0 u1 u2
  | 1 => tr_R_X2_code_1 sa sb sh sr Pr r τ σ u0 u1 u2
  | 2 => tr_R_X2_code_2 sa sb sh sr Pr r τ σ u0 u1 u2
  | 3 => tr_R_X2_code_3 sa sb sh sr Pr r τ σ u0 u1 u2
  | _ => False
def Rn_R_X2_code (sa sb sh sr : Nat) (t : Nat) (σ : sf_St) (u0 u1 u2 : Int32) (r : Int32) (τ : sf_St) : Prop := ∀ Pr : Nat → sf_St → Int32 → Int32 → Int32 → Prop, (∀ (t : Nat) (σ : sf_St) (u0 u1 u2 : Int32), fn_R_X2_code sa sb sh sr Pr r τ t σ u0 u1 u2 → Pr t σ u0 u1 u2) → Pr t σ u0 u1 u2
def R_X2_code (sa sb sh sr : Nat) (σ : sf_St) (r : Int32) (τ : sf_St) : Prop := Rn_R_X2_code sa sb sh sr 0 σ  0 0 0 r τ
theorem fe_R_X2_code_0 {sa sb sh sr : Nat} {Pr : Nat → sf_St → Int32 → Int32 → Int32 → Prop} {r : Int32} {τ σ : sf_St} {u0 u1 u2 : Int32} (h : fn_R_X2_code sa sb sh sr Pr r τ 0 σ u0 u1 u2) : tr_R_X2_code_0 sa sb sh sr Pr r τ σ u0 u1 u2 := h
theorem mo_R_X2_code_0 {sa sb sh sr : Nat} {Pr Pr' : Nat → sf_St → Int32 → Int32 → Int32 → Prop} {r : Int32} {τ σ : sf_St} {u0 u1 u2 : Int32} (hP : ∀ (t : Nat) (σ : sf_St) (u0 u1 u2 : Int32), Pr t σ u0 u1 u2 → Pr' t σ u0 u1 u2) (h : tr_R_X2_code_0 sa sb sh sr Pr r τ σ u0 u1 u2) : tr_R_X2_code_0 sa sb sh sr Pr' r τ σ u0 u1 u2 := by
  unfold tr_R_X2_code_0 at h ⊢
  exact hP _ _ _ _ _ h
theorem ru_R_X2_code_0 {sa sb sh sr : Nat} {r : Int32} {τ σ : sf_St} {u0 u1 u2 : Int32} (h : tr_R_X2_code_0 sa sb sh sr (fun t σ u0 u1 u2 => Rn_R_X2_code sa sb sh sr t σ u0 u1 u2 r τ) r τ σ u0 u1 u2) : Rn_R_X2_code sa sb sh sr 0 σ u0 u1 u2 r τ := fun Pr hP => hP 0 σ u0 u1 u2 (mo_R_X2_code_0 (fun _ _ _ _ _ h => h Pr hP) h)
theorem fe_R_X2_code_1 {sa sb sh sr : Nat} {Pr : Nat → sf_St → Int32 → Int32 → Int32 → Prop} {r : Int32} {τ σ : sf_St} {u0 u1 u2 : Int32} (h : fn_R_X2_code sa sb sh sr Pr r τ 1 σ u0 u1 u2) : tr_R_X2_code_1 sa sb sh sr Pr r τ σ u0 u1 u2 := h
theorem mo_R_X2_code_1 {sa sb sh sr : Nat} {Pr Pr' : Nat → sf_St → Int32 → Int32 → Int32 → Prop} {r : Int32} {τ σ : sf_St} {u0 u1 u2 : Int32} (hP : ∀ (t : Nat) (σ : sf_St) (u0 u1 u2 : Int32), Pr t σ u0 u1 u2 → Pr' t σ u0 u1 u2) (h : tr_R_X2_code_1 sa sb sh sr Pr r τ σ u0 u1 u2) : tr_R_X2_code_1 sa sb sh sr Pr' r τ σ u0 u1 u2 := by
  unfold tr_R_X2_code_1 at h ⊢
  refine sf_mif (fun h => ?_) (fun h => ?_) h
  · exact hP _ _ _ _ _ h
  · refine And.imp id (fun h => ?_) h
    refine Exists.imp (fun _ h => Exists.imp (fun _ h => And.imp id (fun h => ?_) h) h) h
    intro y6 hy6
    have h := h y6 hy6
    intro y7 hy7
    have h := h y7 hy7
    exact hP _ _ _ _ _ h
theorem ru_R_X2_code_1 {sa sb sh sr : Nat} {r : Int32} {τ σ : sf_St} {u0 u1 u2 : Int32} (h : tr_R_X2_code_1 sa sb sh sr (fun t σ u0 u1 u2 => Rn_R_X2_code sa sb sh sr t σ u0 u1 u2 r τ) r τ σ u0 u1 u2) : Rn_R_X2_code sa sb sh sr 1 σ u0 u1 u2 r τ := fun Pr hP => hP 1 σ u0 u1 u2 (mo_R_X2_code_1 (fun _ _ _ _ _ h => h Pr hP) h)
theorem fe_R_X2_code_2 {sa sb sh sr : Nat} {Pr : Nat → sf_St → Int32 → Int32 → Int32 → Prop} {r : Int32} {τ σ : sf_St} {u0 u1 u2 : Int32} (h : fn_R_X2_code sa sb sh sr Pr r τ 2 σ u0 u1 u2) : tr_R_X2_code_2 sa sb sh sr Pr r τ σ u0 u1 u2 := h
theorem mo_R_X2_code_2 {sa sb sh sr : Nat} {Pr Pr' : Nat → sf_St → Int32 → Int32 → Int32 → Prop} {r : Int32} {τ σ : sf_St} {u0 u1 u2 : Int32} (hP : ∀ (t : Nat) (σ : sf_St) (u0 u1 u2 : Int32), Pr t σ u0 u1 u2 → Pr' t σ u0 u1 u2) (h : tr_R_X2_code_2 sa sb sh sr Pr r τ σ u0 u1 u2) : tr_R_X2_code_2 sa sb sh sr Pr' r τ σ u0 u1 u2 := by
  unfold tr_R_X2_code_2 at h ⊢
  refine sf_mif (fun h => ?_) (fun h => ?_) h
  · exact h
  · exact hP _ _ _ _ _ h
theorem ru_R_X2_code_2 {sa sb sh sr : Nat} {r : Int32} {τ σ : sf_St} {u0 u1 u2 : Int32} (h : tr_R_X2_code_2 sa sb sh sr (fun t σ u0 u1 u2 => Rn_R_X2_code sa sb sh sr t σ u0 u1 u2 r τ) r τ σ u0 u1 u2) : Rn_R_X2_code sa sb sh sr 2 σ u0 u1 u2 r τ := fun Pr hP => hP 2 σ u0 u1 u2 (mo_R_X2_code_2 (fun _ _ _ _ _ h => h Pr hP) h)
theorem fe_R_X2_code_3 {sa sb sh sr : Nat} {Pr : Nat → sf_St → Int32 → Int32 → Int32 → Prop} {r : Int32} {τ σ : sf_St} {u0 u1 u2 : Int32} (h : fn_R_X2_code sa sb sh sr Pr r τ 3 σ u0 u1 u2) : tr_R_X2_code_3 sa sb sh sr Pr r τ σ u0 u1 u2 := h
theorem mo_R_X2_code_3 {sa sb sh sr : Nat} {Pr Pr' : Nat → sf_St → Int32 → Int32 → Int32 → Prop} {r : Int32} {τ σ : sf_St} {u0 u1 u2 : Int32} (hP : ∀ (t : Nat) (σ : sf_St) (u0 u1 u2 : Int32), Pr t σ u0 u1 u2 → Pr' t σ u0 u1 u2) (h : tr_R_X2_code_3 sa sb sh sr Pr r τ σ u0 u1 u2) : tr_R_X2_code_3 sa sb sh sr Pr' r τ σ u0 u1 u2 := by
  unfold tr_R_X2_code_3 at h ⊢
  refine sf_mif (fun h => ?_) (fun h => ?_) h
  · intro y10 hy10
    have h := h y10 hy10
    exact hP _ _ _ _ _ h
  · refine And.imp id (fun h => ?_) h
    refine And.imp id (fun h => ?_) h
    refine Exists.imp (fun _ h => Exists.imp (fun _ h => And.imp id (fun h => ?_) h) h) h
    refine sf_mif (fun h => ?_) (fun h => ?_) h
    · intro y17 hy17
      have h := h y17 hy17
      exact hP _ _ _ _ _ h
    · refine And.imp id (fun h => ?_) h
      refine sf_mif (fun h => ?_) (fun h => ?_) h
      · intro y20 hy20
        have h := h y20 hy20
        exact hP _ _ _ _ _ h
      · refine Exists.imp (fun _ h => Exists.imp (fun _ h => And.imp id (fun h => ?_) h) h) h
        intro y24 hy24
        have h := h y24 hy24
        intro y25 hy25
        have h := h y25 hy25
        exact hP _ _ _ _ _ h
theorem ru_R_X2_code_3 {sa sb sh sr : Nat} {r : Int32} {τ σ : sf_St} {u0 u1 u2 : Int32} (h : tr_R_X2_code_3 sa sb sh sr (fun t σ u0 u1 u2 => Rn_R_X2_code sa sb sh sr t σ u0 u1 u2 r τ) r τ σ u0 u1 u2) : Rn_R_X2_code sa sb sh sr 3 σ u0 u1 u2 r τ := fun Pr hP => hP 3 σ u0 u1 u2 (mo_R_X2_code_3 (fun _ _ _ _ _ h => h Pr hP) h)
set_option maxHeartbeats 4000000 in
set_option maxRecDepth 100000 in
theorem c_X2_code {l : Launch} {D : va_G} {q : Nat → Nat} {dA : Nat → ClassId} {tv ta tb : Nat} (hq : sf_inj q KX) {σ τ : sf_St} {r : Int32} (h : R_X2_code 18 19 20 21 σ  r τ) : sf_Mi l yX2_code wsX2_code ({ frames := 2, cells := 0, slots := 0, locals := 53 }) D vwCl q dA KX (sf_EX q tv ta tb) [.ref (q 32), .ref (q 1), .ref (q 17)] σ r τ := by
  refine sf_meti (cc := cX2_code) (maxL := 7) (ret := (some .int)) (own := RX2) (by decide +kernel) rfl rfl hq sf_EXk (Nat.le_of_ble_eq_true rfl) ?_
  intro p e s m args below meth c X
  have hT := X.2.2.2.1.2.1
  refine sf_loc (lv' := [(0, .ref (q 32)), (1, .ref (q 1)), (2, .ref (q 17))]) [0, 1, 2] rfl ?_
  refine h (fun t σ u0 u1 u2 => match t with
    | 0 => sf_G p l e (headSpec wsX2_code ({ frames := 2, cells := 0, slots := 0, locals := 53 })).room s m args below meth c (sf_Qi D vwCl q dA KX (sf_EX q tv ta tb) below args s r τ) 7 D vwCl q dA KX σ 0 [(0, .ref (q 32)), (1, .ref (q 1)), (2, .ref (q 17))] []
    | 1 => sf_G p l e (headSpec wsX2_code ({ frames := 2, cells := 0, slots := 0, locals := 53 })).room s m args below meth c (sf_Qi D vwCl q dA KX (sf_EX q tv ta tb) below args s r τ) 7 D vwCl q dA KX σ 5 [(0, .ref (q 32)), (1, .ref (q 1)), (2, .ref (q 17)), (3, .int u0), (4, .int u1)] []
    | 2 => sf_G p l e (headSpec wsX2_code ({ frames := 2, cells := 0, slots := 0, locals := 53 })).room s m args below meth c (sf_Qi D vwCl q dA KX (sf_EX q tv ta tb) below args s r τ) 7 D vwCl q dA KX σ 43 [(0, .ref (q 32)), (1, .ref (q 1)), (2, .ref (q 17)), (3, .int u0), (4, .int u1)] []
    | 3 => sf_G p l e (headSpec wsX2_code ({ frames := 2, cells := 0, slots := 0, locals := 53 })).room s m args below meth c (sf_Qi D vwCl q dA KX (sf_EX q tv ta tb) below args s r τ) 7 D vwCl q dA KX σ 55 [(0, .ref (q 32)), (1, .ref (q 1)), (2, .ref (q 17)), (3, .int u0), (4, .int u1), (5, .int u2)] []
    | _ => True) ?_
  intro t σ u0 u1 u2 h
  match t, h with
  | 0, h =>
      replace h := fe_R_X2_code_0 h
      unfold tr_R_X2_code_0 at h
      show sf_G p l e (headSpec wsX2_code ({ frames := 2, cells := 0, slots := 0, locals := 53 })).room s m args below meth c (sf_Qi D vwCl q dA KX (sf_EX q tv ta tb) below args s r τ) 7 D vwCl q dA KX σ 0 [(0, .ref (q 32)), (1, .ref (q 1)), (2, .ref (q 17))] []
      refine sf_iconst (v := 0) X dX2_code_0 sf_ic_0 rfl ?_
      refine sf_istore_n (i := 3) (lv' := [(3, .int (0 : Int32)), (0, .ref (q 32)), (1, .ref (q 1)), (2, .ref (q 17))]) X dX2_code_1 rfl (by decide) rfl rfl ?_
      refine sf_iconst (v := 0) X dX2_code_2 sf_ic_0 rfl ?_
      refine sf_istore (i := 4) (lv' := [(4, .int (0 : Int32)), (3, .int (0 : Int32)), (0, .ref (q 32)), (1, .ref (q 1)), (2, .ref (q 17))]) X dX2_code_3 (by decide) rfl rfl ?_
      refine sf_loc (lv' := [(0, .ref (q 32)), (1, .ref (q 1)), (2, .ref (q 17)), (3, .int (0 : Int32)), (4, .int (0 : Int32))]) [2, 3, 4, 1, 0] rfl ?_
      exact h
  | 1, h =>
      replace h := fe_R_X2_code_1 h
      unfold tr_R_X2_code_1 at h
      show sf_G p l e (headSpec wsX2_code ({ frames := 2, cells := 0, slots := 0, locals := 53 })).room s m args below meth c (sf_Qi D vwCl q dA KX (sf_EX q tv ta tb) below args s r τ) 7 D vwCl q dA KX σ 5 [(0, .ref (q 32)), (1, .ref (q 1)), (2, .ref (q 17)), (3, .int u0), (4, .int u1)] []
      refine sf_iload (i := 4) (j := 4) X dX2_code_5 rfl rfl ?_
      refine sf_aload_n (i := 1) (j := 1) X dX2_code_7 rfl rfl rfl ?_
      refine sf_getI (C := RX0) (T := TX0) (N := 10) (ci := 0) (j := 3) X (fun w h => sf_memc (inX0 w h)) rfl rfl (by decide) (X.1.2.2.2.2 _ (sf_memc tw_86)) (fun _ h9 => h9) rfl dX2_code_8 rfl ?_
      refine sf_icmp_ge (tgt := 40) X dX2_code_11 rfl rfl (fun c1 => ?_) (fun c1 => ?_)
      · have h := sf_ift c1 h
        refine sf_iconst (v := 0) X dX2_code_40 sf_ic_0 rfl ?_
        refine sf_istore (i := 4) (lv' := [(4, .int (0 : Int32)), (0, .ref (q 32)), (1, .ref (q 1)), (2, .ref (q 17)), (3, .int u0)]) X dX2_code_41 (by decide) rfl rfl ?_
        refine sf_loc (lv' := [(0, .ref (q 32)), (1, .ref (q 1)), (2, .ref (q 17)), (3, .int u0), (4, .int (0 : Int32))]) [1, 2, 3, 4, 0] rfl ?_
        exact h
      · have h := sf_iff c1 h
        refine sf_iconst (v := 3) X dX2_code_14 sf_ic_3 rfl ?_
        refine sf_iload_n (i := 3) (j := 3) X dX2_code_15 rfl rfl rfl ?_
        refine sf_imul X dX2_code_16 rfl ?_
        refine sf_aload_n (i := 0) (j := 0) X dX2_code_17 rfl rfl rfl ?_
        refine sf_aload_n (i := 1) (j := 1) X dX2_code_18 rfl rfl rfl ?_
        refine sf_aload_n (i := 2) (j := 2) X dX2_code_19 rfl rfl rfl ?_
        refine sf_aload_n (i := 0) (j := 0) X dX2_code_20 rfl rfl rfl ?_
        refine sf_getR (C := RX2) (T := TX2) (N := 2) (ci := 2) (j := 0) (k' := 33) X (fun w h => sf_memc (inX2 w h)) rfl rfl (by decide) (X.1.2.2.2.2 _ (sf_memc tw_158)) (fun _ h9 => h9) rfl dX2_code_21 rfl ?_
        refine sf_iload (i := 4) (j := 4) X dX2_code_24 rfl rfl ?_
        obtain ⟨b2, h⟩ := h
        refine sf_iald X rfl b2 dX2_code_26 rfl ?_
        obtain ⟨r5, τ4, hR3, h⟩ := h
        refine sf_callVi (As := [.ref (q 1), .ref (q 17), .int (σ 33 (sf_ix u1))]) (rest := [.int ((3 : Int32) * u0)]) (cv := (RX2, TX2, 2)) X rfl rfl (c_X2_senseOfAtom hq hR3) (cwV 3 X.1.2.2.2.2 (sf_gV tw_449 tw_450 tw_451 tw_45 tw_452) rfl rfl rfl ⟨rfl, hd_X2_senseOfAtom⟩ ⟨Nat.le_of_ble_eq_true rfl, Nat.le_of_ble_eq_true rfl⟩) rfl rfl (Nat.le_of_ble_eq_true rfl) dX2_code_27 rfl ?_
        refine sf_iadd X dX2_code_30 rfl ?_
        refine sf_iconst (v := 1) X dX2_code_31 sf_ic_1 rfl ?_
        refine sf_iadd X dX2_code_32 rfl ?_
        refine sf_top (fun y6 hy6 => ?_)
        have h := h y6 hy6
        refine sf_istore_n (i := 3) (lv' := [(3, .int y6), (0, .ref (q 32)), (1, .ref (q 1)), (2, .ref (q 17)), (4, .int u1)]) X dX2_code_33 rfl (by decide) rfl rfl ?_
        refine sf_iinc (i := 4) (j := 4) (d := 1) (lv' := fun y7 => [(4, .int y7), (3, .int y6), (0, .ref (q 32)), (1, .ref (q 1)), (2, .ref (q 17))]) X dX2_code_34 rfl sf_ic_1 (by decide) (fun _ => rfl) rfl (fun y7 hy7 => ?_)
        have h := h y7 hy7
        refine sf_goto (tgt := 5) X dX2_code_37 rfl ?_
        refine sf_loc (lv' := [(0, .ref (q 32)), (1, .ref (q 1)), (2, .ref (q 17)), (3, .int y6), (4, .int y7)]) [2, 3, 4, 1, 0] rfl ?_
        exact h
  | 2, h =>
      replace h := fe_R_X2_code_2 h
      unfold tr_R_X2_code_2 at h
      show sf_G p l e (headSpec wsX2_code ({ frames := 2, cells := 0, slots := 0, locals := 53 })).room s m args below meth c (sf_Qi D vwCl q dA KX (sf_EX q tv ta tb) below args s r τ) 7 D vwCl q dA KX σ 43 [(0, .ref (q 32)), (1, .ref (q 1)), (2, .ref (q 17)), (3, .int u0), (4, .int u1)] []
      refine sf_iload (i := 4) (j := 4) X dX2_code_43 rfl rfl ?_
      refine sf_aload_n (i := 1) (j := 1) X dX2_code_45 rfl rfl rfl ?_
      refine sf_getI (C := RX0) (T := TX0) (N := 10) (ci := 0) (j := 3) X (fun w h => sf_memc (inX0 w h)) rfl rfl (by decide) (X.1.2.2.2.2 _ (sf_memc tw_86)) (fun _ h9 => h9) rfl dX2_code_46 rfl ?_
      refine sf_icmp_ge (tgt := 125) X dX2_code_49 rfl rfl (fun c8 => ?_) (fun c8 => ?_)
      · have h := sf_ift c8 h
        refine sf_iload_n (i := 3) (j := 3) X dX2_code_125 rfl rfl rfl ?_
        exact sf_reti X h dX2_code_126
      · have h := sf_iff c8 h
        refine sf_iconst (v := 0) X dX2_code_52 sf_ic_0 rfl ?_
        refine sf_istore (i := 5) (lv' := [(5, .int (0 : Int32)), (0, .ref (q 32)), (1, .ref (q 1)), (2, .ref (q 17)), (3, .int u0), (4, .int u1)]) X dX2_code_53 (by decide) rfl rfl ?_
        refine sf_loc (lv' := [(0, .ref (q 32)), (1, .ref (q 1)), (2, .ref (q 17)), (3, .int u0), (4, .int u1), (5, .int (0 : Int32))]) [1, 2, 3, 4, 5, 0] rfl ?_
        exact h
  | 3, h =>
      replace h := fe_R_X2_code_3 h
      unfold tr_R_X2_code_3 at h
      show sf_G p l e (headSpec wsX2_code ({ frames := 2, cells := 0, slots := 0, locals := 53 })).room s m args below meth c (sf_Qi D vwCl q dA KX (sf_EX q tv ta tb) below args s r τ) 7 D vwCl q dA KX σ 55 [(0, .ref (q 32)), (1, .ref (q 1)), (2, .ref (q 17)), (3, .int u0), (4, .int u1), (5, .int u2)] []
      refine sf_iload (i := 5) (j := 5) X dX2_code_55 rfl rfl ?_
      refine sf_iload (i := 4) (j := 4) X dX2_code_57 rfl rfl ?_
      refine sf_icmp_ge (tgt := 119) X dX2_code_59 rfl rfl (fun c9 => ?_) (fun c9 => ?_)
      · have h := sf_ift c9 h
        refine sf_iinc (i := 4) (j := 4) (d := 1) (lv' := fun y10 => [(4, .int y10), (0, .ref (q 32)), (1, .ref (q 1)), (2, .ref (q 17)), (3, .int u0), (5, .int u2)]) X dX2_code_119 rfl sf_ic_1 (by decide) (fun _ => rfl) rfl (fun y10 hy10 => ?_)
        have h := h y10 hy10
        refine sf_goto (tgt := 43) X dX2_code_122 rfl ?_
        refine sf_loc (lv' := [(0, .ref (q 32)), (1, .ref (q 1)), (2, .ref (q 17)), (3, .int u0), (4, .int y10)]) [1, 2, 3, 4, 0] rfl ?_
        exact h
      · have h := sf_iff c9 h
        refine sf_aload_n (i := 1) (j := 1) X dX2_code_62 rfl rfl rfl ?_
        refine sf_aload_n (i := 0) (j := 0) X dX2_code_63 rfl rfl rfl ?_
        refine sf_getR (C := RX2) (T := TX2) (N := 2) (ci := 2) (j := 0) (k' := 33) X (fun w h => sf_memc (inX2 w h)) rfl rfl (by decide) (X.1.2.2.2.2 _ (sf_memc tw_158)) (fun _ h9 => h9) rfl dX2_code_64 rfl ?_
        refine sf_iload (i := 4) (j := 4) X dX2_code_67 rfl rfl ?_
        obtain ⟨b11, h⟩ := h
        refine sf_iald X rfl b11 dX2_code_69 rfl ?_
        refine sf_aload_n (i := 0) (j := 0) X dX2_code_70 rfl rfl rfl ?_
        refine sf_getR (C := RX2) (T := TX2) (N := 2) (ci := 2) (j := 0) (k' := 33) X (fun w h => sf_memc (inX2 w h)) rfl rfl (by decide) (X.1.2.2.2.2 _ (sf_memc tw_158)) (fun _ h9 => h9) rfl dX2_code_71 rfl ?_
        refine sf_iload (i := 5) (j := 5) X dX2_code_74 rfl rfl ?_
        obtain ⟨b12, h⟩ := h
        refine sf_iald X rfl b12 dX2_code_76 rfl ?_
        obtain ⟨r15, τ14, hR13, h⟩ := h
        refine sf_callVi (As := [.int (σ 33 (sf_ix u1)), .int (σ 33 (sf_ix u2))]) (rest := []) (cv := (RX0, TX0, 10)) X rfl rfl (c_X0_bondOf hq hR13) (cwV 2 X.1.2.2.2.2 (sf_gV tw_457 tw_369 tw_370 tw_42 tw_371) rfl rfl rfl ⟨rfl, hd_X0_bondOf⟩ ⟨Nat.le_of_ble_eq_true rfl, Nat.le_of_ble_eq_true rfl⟩) rfl rfl (Nat.le_of_ble_eq_true rfl) dX2_code_77 rfl ?_
        refine sf_istore (i := 6) (lv' := [(6, .int r15), (0, .ref (q 32)), (1, .ref (q 1)), (2, .ref (q 17)), (3, .int u0), (4, .int u1), (5, .int u2)]) X dX2_code_80 (by decide) rfl rfl ?_
        refine sf_iload (i := 6) (j := 0) X dX2_code_82 rfl rfl ?_
        refine sf_iconst (v := (-1)) X dX2_code_84 sf_ic_m1 rfl ?_
        refine sf_icmp_eq (tgt := 113) X dX2_code_85 rfl rfl (fun c16 => ?_) (fun c16 => ?_)
        · have h := sf_ift c16 h
          refine sf_iinc (i := 5) (j := 6) (d := 1) (lv' := fun y17 => [(5, .int y17), (6, .int r15), (0, .ref (q 32)), (1, .ref (q 1)), (2, .ref (q 17)), (3, .int u0), (4, .int u1)]) X dX2_code_113 rfl sf_ic_1 (by decide) (fun _ => rfl) rfl (fun y17 hy17 => ?_)
          have h := h y17 hy17
          refine sf_goto (tgt := 55) X dX2_code_116 rfl ?_
          refine sf_loc (lv' := [(0, .ref (q 32)), (1, .ref (q 1)), (2, .ref (q 17)), (3, .int u0), (4, .int u1), (5, .int y17)]) [2, 3, 4, 5, 6, 0] rfl ?_
          exact h
        · have h := sf_iff c16 h
          refine sf_aload_n (i := 2) (j := 3) X dX2_code_88 rfl rfl rfl ?_
          refine sf_getR (C := RX4) (T := TX4) (N := 4) (ci := 4) (j := 2) (k' := 20) X (fun w h => sf_memc (inX4 w h)) rfl rfl (by decide) (X.1.2.2.2.2 _ (sf_memc tw_134)) (fun _ h9 => h9) rfl dX2_code_89 rfl ?_
          refine sf_iload (i := 6) (j := 0) X dX2_code_92 rfl rfl ?_
          obtain ⟨b18, h⟩ := h
          refine sf_zald X rfl b18 dX2_code_94 rfl ?_
          refine sf_if_eq (tgt := 113) X dX2_code_95 rfl rfl (fun c19 => ?_) (fun c19 => ?_)
          · have h := sf_ift c19 h
            refine sf_iinc (i := 5) (j := 6) (d := 1) (lv' := fun y20 => [(5, .int y20), (6, .int r15), (0, .ref (q 32)), (1, .ref (q 1)), (2, .ref (q 17)), (3, .int u0), (4, .int u1)]) X dX2_code_113 rfl sf_ic_1 (by decide) (fun _ => rfl) rfl (fun y20 hy20 => ?_)
            have h := h y20 hy20
            refine sf_goto (tgt := 55) X dX2_code_116 rfl ?_
            refine sf_loc (lv' := [(0, .ref (q 32)), (1, .ref (q 1)), (2, .ref (q 17)), (3, .int u0), (4, .int u1), (5, .int y20)]) [2, 3, 4, 5, 6, 0] rfl ?_
            exact h
          · have h := sf_iff c19 h
            refine sf_iconst (v := 3) X dX2_code_98 sf_ic_3 rfl ?_
            refine sf_iload_n (i := 3) (j := 4) X dX2_code_99 rfl rfl rfl ?_
            refine sf_imul X dX2_code_100 rfl ?_
            refine sf_aload_n (i := 0) (j := 1) X dX2_code_101 rfl rfl rfl ?_
            refine sf_aload_n (i := 1) (j := 2) X dX2_code_102 rfl rfl rfl ?_
            refine sf_aload_n (i := 2) (j := 3) X dX2_code_103 rfl rfl rfl ?_
            refine sf_iload (i := 6) (j := 0) X dX2_code_104 rfl rfl ?_
            obtain ⟨r23, τ22, hR21, h⟩ := h
            refine sf_callVi (As := [.ref (q 1), .ref (q 17), .int r15]) (rest := [.int ((3 : Int32) * u0)]) (cv := (RX2, TX2, 2)) X rfl rfl (c_X2_senseOfBond hq hR21) (cwV 3 X.1.2.2.2.2 (sf_gV tw_458 tw_459 tw_460 tw_45 tw_461) rfl rfl rfl ⟨rfl, hd_X2_senseOfBond⟩ ⟨Nat.le_of_ble_eq_true rfl, Nat.le_of_ble_eq_true rfl⟩) rfl rfl (Nat.le_of_ble_eq_true rfl) dX2_code_106 rfl ?_
            refine sf_iadd X dX2_code_109 rfl ?_
            refine sf_iconst (v := 1) X dX2_code_110 sf_ic_1 rfl ?_
            refine sf_iadd X dX2_code_111 rfl ?_
            refine sf_top (fun y24 hy24 => ?_)
            have h := h y24 hy24
            refine sf_istore_n (i := 3) (lv' := [(3, .int y24), (6, .int r15), (0, .ref (q 32)), (1, .ref (q 1)), (2, .ref (q 17)), (4, .int u1), (5, .int u2)]) X dX2_code_112 rfl (by decide) rfl rfl ?_
            refine sf_iinc (i := 5) (j := 6) (d := 1) (lv' := fun y25 => [(5, .int y25), (3, .int y24), (6, .int r15), (0, .ref (q 32)), (1, .ref (q 1)), (2, .ref (q 17)), (4, .int u1)]) X dX2_code_113 rfl sf_ic_1 (by decide) (fun _ => rfl) rfl (fun y25 hy25 => ?_)
            have h := h y25 hy25
            refine sf_goto (tgt := 55) X dX2_code_116 rfl ?_
            refine sf_loc (lv' := [(0, .ref (q 32)), (1, .ref (q 1)), (2, .ref (q 17)), (3, .int y24), (4, .int u1), (5, .int y25)]) [3, 4, 5, 1, 6, 0] rfl ?_
            exact h
  | (_ + 4), _ => exact trivial
