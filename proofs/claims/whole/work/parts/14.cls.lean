set_option maxHeartbeats 4000000 in
set_option maxRecDepth 100000 in
theorem c_X3_leastSenses_2 {l : Launch} {D : va_G} {q : Nat → Nat} {dA : Nat → ClassId} {tv ta tb : Nat} (hq : sf_inj q KX) {σ τ : sf_St} {r : Int32} (h : R_X3_leastSenses 23 24 25 26 σ  r τ) : sf_Mi l yX3_leastSenses wsX3_leastSenses ({ frames := 13, cells := 0, slots := 0, locals := 327 }) D vwCl q dA KX (sf_EX q tv ta tb) [.ref (q 27), .ref (q 1), .ref (q 22)] σ r τ := by
  refine sf_meti (cc := cX3_leastSenses) (maxL := 3) (ret := (some .int)) (own := RX3) (by decide +kernel) rfl rfl hq sf_EXk (Nat.le_of_ble_eq_true rfl) ?_
  intro p e s m args below meth c X
  have hT := X.2.2.2.1.2.1
  unfold R_X3_leastSenses at h
  refine sf_loc (lv' := [(0, .ref (q 27)), (1, .ref (q 1)), (2, .ref (q 22))]) [0, 1, 2] rfl ?_
  refine sf_aload_n (i := 0) (j := 0) X dX3_leastSenses_0 rfl rfl rfl ?_
  refine sf_ldc (v := 2147483647) X (X.1.2.2.2.2 _ (sf_memc tw_168)) dX3_leastSenses_1 rfl ?_
  refine sf_putI (C := RX3) (T := TX3) (N := 5) (ci := 3) (j := 4) (ty := .int) X (fun w h => sf_memc (inX3 w h)) rfl rfl (by decide) (X.1.2.2.2.2 _ (sf_memc tw_175)) (fun _ h9 => h9) tyX3 tyX3_ok nmX3 rfl (by decide +kernel) rfl rfl rfl dX3_leastSenses_3 rfl (fun τ1 hτ1 => ?_)
  have h := h τ1 hτ1
  refine sf_aload_n (i := 0) (j := 0) X dX3_leastSenses_6 rfl rfl rfl ?_
  refine sf_getR (C := RX3) (T := TX3) (N := 5) (ci := 3) (j := 2) (k' := 32) X (fun w h => sf_memc (inX3 w h)) rfl rfl (by decide) (X.1.2.2.2.2 _ (sf_memc tw_173)) (fun _ h9 => h9) rfl dX3_leastSenses_7 rfl ?_
  obtain ⟨τ3, hR2, h⟩ := h
  refine sf_callVv (As := []) (rest := []) (cv := (RX2, TX2, 2)) X rfl rfl (c_X2_removeAll hq hR2) (cwV 0 X.1.2.2.2.2 (sf_gV tw_432 tw_433 tw_434 tw_45 tw_435) rfl rfl rfl ⟨rfl, hd_X2_removeAll⟩ ⟨Nat.le_of_ble_eq_true rfl, Nat.le_of_ble_eq_true rfl⟩) rfl rfl (Nat.le_of_ble_eq_true rfl) dX3_leastSenses_10 rfl ?_
  refine sf_aload_n (i := 0) (j := 0) X dX3_leastSenses_13 rfl rfl rfl ?_
  refine sf_aload_n (i := 1) (j := 1) X dX3_leastSenses_14 rfl rfl rfl ?_
  refine sf_aload_n (i := 2) (j := 2) X dX3_leastSenses_15 rfl rfl rfl ?_
  refine sf_iconst (v := 0) X dX3_leastSenses_16 sf_ic_0 rfl ?_
  obtain ⟨τ5, hR4, h⟩ := h
  refine sf_callVv (As := [.ref (q 1), .ref (q 22), .int (0 : Int32)]) (rest := []) (cv := (RX3, TX3, 5)) X rfl rfl (c_X3_place_2 hq 8 hR4) (cwV 3 X.1.2.2.2.2 (sf_gV tw_437 tw_439 tw_4 tw_44 tw_440) rfl rfl rfl ⟨rfl, hd_X3_place⟩ ⟨Nat.le_of_ble_eq_true rfl, Nat.le_of_ble_eq_true rfl⟩) rfl rfl (Nat.le_of_ble_eq_true rfl) dX3_leastSenses_17 rfl ?_
  refine sf_aload_n (i := 0) (j := 0) X dX3_leastSenses_20 rfl rfl rfl ?_
  refine sf_getI (C := RX3) (T := TX3) (N := 5) (ci := 3) (j := 4) X (fun w h => sf_memc (inX3 w h)) rfl rfl (by decide) (X.1.2.2.2.2 _ (sf_memc tw_175)) (fun _ h9 => h9) rfl dX3_leastSenses_21 rfl ?_
  exact sf_reti X h dX3_leastSenses_24
def R_X6_settle (σ : sf_St) (τ : sf_St) : Prop :=
  if (σ 0 10) = (0 : Int32) then (∃ τ3 : sf_St, R_X4_readFrom σ τ3 ∧ (∃ τ5 : sf_St, R_X3_begin τ3 τ5 ∧ (∃ (r8 : Int32) (τ7 : sf_St), R_X3_leastSenses 18 19 20 21 τ5 r8 τ7 ∧ (∃ τ10 : sf_St, R_X1_take 36 37 28 τ7 (τ7 1 3) r8 τ10 ∧ (∃ τ12 : sf_St, R_X2_copyFrom 41 42 30 31 τ10 τ12 ∧ (∃ τ14 : sf_St, R_X4_copyFrom τ12 τ14 ∧ (∃ τ16 : sf_St, R_X4_mirror τ14 τ16 ∧ (∃ (r19 : Int32) (τ18 : sf_St), R_X3_leastSenses 23 24 25 26 τ16 r19 τ18 ∧ (∀ τ20 : sf_St, τ20 = sf_up τ18 0 9 r19 → (∀ τ21 : sf_St, τ21 = sf_up τ20 0 10 (1 : Int32) → (τ = τ21))))))))))) else (τ = σ)
set_option maxHeartbeats 4000000 in
set_option maxRecDepth 100000 in
theorem c_X6_settle {l : Launch} {D : va_G} {q : Nat → Nat} {dA : Nat → ClassId} {tv ta tb : Nat} (hq : sf_inj q KX) {σ τ : sf_St} (h : R_X6_settle σ  τ) : sf_Mv l yX6_settle wsX6_settle ({ frames := 14, cells := 0, slots := 0, locals := 349 }) D vwCl q dA KX (sf_EX q tv ta tb) [.ref (q 0)] σ τ := by
  refine sf_metv (cc := cX6_settle) (maxL := 2) (ret := none) (own := RX6) (by decide +kernel) rfl rfl hq sf_EXk (Nat.le_of_ble_eq_true rfl) ?_
  intro p e s m args below meth c X
  have hT := X.2.2.2.1.2.1
  unfold R_X6_settle at h
  refine sf_loc (lv' := [(0, .ref (q 0))]) [0] rfl ?_
  refine sf_aload_n (i := 0) (j := 0) X dX6_settle_0 rfl rfl rfl ?_
  refine sf_getI (C := RX6) (T := TX6) (N := 11) (ci := 6) (j := 10) X (fun w h => sf_memc (inX6 w h)) rfl rfl (by decide) (X.1.2.2.2.2 _ (sf_memc tw_234)) (fun _ h9 => h9) rfl dX6_settle_1 rfl ?_
  refine sf_if_eq (tgt := 8) X dX6_settle_4 rfl rfl (fun c1 => ?_) (fun c1 => ?_)
  · have h := sf_ift c1 h
    refine sf_aload_n (i := 0) (j := 0) X dX6_settle_8 rfl rfl rfl ?_
    refine sf_getR (C := RX6) (T := TX6) (N := 11) (ci := 6) (j := 1) (k' := 17) X (fun w h => sf_memc (inX6 w h)) rfl rfl (by decide) (X.1.2.2.2.2 _ (sf_memc tw_225)) (fun _ h9 => h9) rfl dX6_settle_9 rfl ?_
    refine sf_aload_n (i := 0) (j := 0) X dX6_settle_12 rfl rfl rfl ?_
    refine sf_getR (C := RX6) (T := TX6) (N := 11) (ci := 6) (j := 0) (k' := 1) X (fun w h => sf_memc (inX6 w h)) rfl rfl (by decide) (X.1.2.2.2.2 _ (sf_memc tw_224)) (fun _ h9 => h9) rfl dX6_settle_13 rfl ?_
    obtain ⟨τ3, hR2, h⟩ := h
    refine sf_callVv (As := [.ref (q 1)]) (rest := []) (cv := (RX4, TX4, 4)) X rfl rfl (c_X4_readFrom hq hR2) (cwV 1 X.1.2.2.2.2 (sf_gV tw_415 tw_416 tw_417 tw_43 tw_418) rfl rfl rfl ⟨rfl, hd_X4_readFrom⟩ ⟨Nat.le_of_ble_eq_true rfl, Nat.le_of_ble_eq_true rfl⟩) rfl rfl (Nat.le_of_ble_eq_true rfl) dX6_settle_16 rfl ?_
    refine sf_aload_n (i := 0) (j := 0) X dX6_settle_19 rfl rfl rfl ?_
    refine sf_getR (C := RX6) (T := TX6) (N := 11) (ci := 6) (j := 3) (k' := 27) X (fun w h => sf_memc (inX6 w h)) rfl rfl (by decide) (X.1.2.2.2.2 _ (sf_memc tw_227)) (fun _ h9 => h9) rfl dX6_settle_20 rfl ?_
    refine sf_aload_n (i := 0) (j := 0) X dX6_settle_23 rfl rfl rfl ?_
    refine sf_getR (C := RX6) (T := TX6) (N := 11) (ci := 6) (j := 0) (k' := 1) X (fun w h => sf_memc (inX6 w h)) rfl rfl (by decide) (X.1.2.2.2.2 _ (sf_memc tw_224)) (fun _ h9 => h9) rfl dX6_settle_24 rfl ?_
    obtain ⟨τ5, hR4, h⟩ := h
    refine sf_callVv (As := [.ref (q 1)]) (rest := []) (cv := (RX3, TX3, 5)) X rfl rfl (c_X3_begin hq hR4) (cwV 1 X.1.2.2.2.2 (sf_gV tw_421 tw_422 tw_423 tw_44 tw_424) rfl rfl rfl ⟨rfl, hd_X3_begin⟩ ⟨Nat.le_of_ble_eq_true rfl, Nat.le_of_ble_eq_true rfl⟩) rfl rfl (Nat.le_of_ble_eq_true rfl) dX6_settle_27 rfl ?_
    refine sf_aload_n (i := 0) (j := 0) X dX6_settle_30 rfl rfl rfl ?_
    refine sf_getR (C := RX6) (T := TX6) (N := 11) (ci := 6) (j := 3) (k' := 27) X (fun w h => sf_memc (inX6 w h)) rfl rfl (by decide) (X.1.2.2.2.2 _ (sf_memc tw_227)) (fun _ h9 => h9) rfl dX6_settle_31 rfl ?_
    refine sf_aload_n (i := 0) (j := 0) X dX6_settle_34 rfl rfl rfl ?_
    refine sf_getR (C := RX6) (T := TX6) (N := 11) (ci := 6) (j := 0) (k' := 1) X (fun w h => sf_memc (inX6 w h)) rfl rfl (by decide) (X.1.2.2.2.2 _ (sf_memc tw_224)) (fun _ h9 => h9) rfl dX6_settle_35 rfl ?_
    refine sf_aload_n (i := 0) (j := 0) X dX6_settle_38 rfl rfl rfl ?_
    refine sf_getR (C := RX6) (T := TX6) (N := 11) (ci := 6) (j := 1) (k' := 17) X (fun w h => sf_memc (inX6 w h)) rfl rfl (by decide) (X.1.2.2.2.2 _ (sf_memc tw_225)) (fun _ h9 => h9) rfl dX6_settle_39 rfl ?_
    obtain ⟨r8, τ7, hR6, h⟩ := h
    refine sf_callVi (As := [.ref (q 1), .ref (q 17)]) (rest := []) (cv := (RX3, TX3, 5)) X rfl rfl (c_X3_leastSenses hq hR6) (cwV 2 X.1.2.2.2.2 (sf_gV tw_428 tw_429 tw_430 tw_44 tw_431) rfl rfl rfl ⟨rfl, hd_X3_leastSenses⟩ ⟨Nat.le_of_ble_eq_true rfl, Nat.le_of_ble_eq_true rfl⟩) rfl rfl (Nat.le_of_ble_eq_true rfl) dX6_settle_42 rfl ?_
    refine sf_istore_n (i := 1) (lv' := [(1, .int r8), (0, .ref (q 0))]) X dX6_settle_45 rfl (by decide) rfl rfl ?_
    refine sf_aload_n (i := 0) (j := 1) X dX6_settle_46 rfl rfl rfl ?_
    refine sf_getR (C := RX6) (T := TX6) (N := 11) (ci := 6) (j := 4) (k' := 36) X (fun w h => sf_memc (inX6 w h)) rfl rfl (by decide) (X.1.2.2.2.2 _ (sf_memc tw_228)) (fun _ h9 => h9) rfl dX6_settle_47 rfl ?_
    refine sf_aload_n (i := 0) (j := 1) X dX6_settle_50 rfl rfl rfl ?_
    refine sf_getR (C := RX6) (T := TX6) (N := 11) (ci := 6) (j := 3) (k' := 27) X (fun w h => sf_memc (inX6 w h)) rfl rfl (by decide) (X.1.2.2.2.2 _ (sf_memc tw_227)) (fun _ h9 => h9) rfl dX6_settle_51 rfl ?_
    refine sf_getR (C := RX3) (T := TX3) (N := 5) (ci := 3) (j := 0) (k' := 28) X (fun w h => sf_memc (inX3 w h)) rfl rfl (by decide) (X.1.2.2.2.2 _ (sf_memc tw_170)) (fun _ h9 => h9) rfl dX6_settle_54 rfl ?_
    refine sf_aload_n (i := 0) (j := 1) X dX6_settle_57 rfl rfl rfl ?_
    refine sf_getR (C := RX6) (T := TX6) (N := 11) (ci := 6) (j := 0) (k' := 1) X (fun w h => sf_memc (inX6 w h)) rfl rfl (by decide) (X.1.2.2.2.2 _ (sf_memc tw_224)) (fun _ h9 => h9) rfl dX6_settle_58 rfl ?_
    refine sf_getI (C := RX0) (T := TX0) (N := 10) (ci := 0) (j := 3) X (fun w h => sf_memc (inX0 w h)) rfl rfl (by decide) (X.1.2.2.2.2 _ (sf_memc tw_85)) (fun _ h9 => h9) rfl dX6_settle_61 rfl ?_
    refine sf_iload_n (i := 1) (j := 0) X dX6_settle_64 rfl rfl rfl ?_
    obtain ⟨τ10, hR9, h⟩ := h
    refine sf_callVv (As := [.ref (q 28), .int (τ7 1 3), .int r8]) (rest := []) (cv := (RX1, TX1, 3)) X rfl rfl (c_X1_take hq hR9) (cwV 3 X.1.2.2.2.2 (sf_gV tw_496 tw_497 tw_498 tw_46 tw_499) rfl rfl rfl ⟨rfl, hd_X1_take⟩ ⟨Nat.le_of_ble_eq_true rfl, Nat.le_of_ble_eq_true rfl⟩) rfl rfl (Nat.le_of_ble_eq_true rfl) dX6_settle_65 rfl ?_
    refine sf_aload_n (i := 0) (j := 1) X dX6_settle_68 rfl rfl rfl ?_
    refine sf_getR (C := RX6) (T := TX6) (N := 11) (ci := 6) (j := 6) (k' := 40) X (fun w h => sf_memc (inX6 w h)) rfl rfl (by decide) (X.1.2.2.2.2 _ (sf_memc tw_230)) (fun _ h9 => h9) rfl dX6_settle_69 rfl ?_
    refine sf_aload_n (i := 0) (j := 1) X dX6_settle_72 rfl rfl rfl ?_
    refine sf_getR (C := RX6) (T := TX6) (N := 11) (ci := 6) (j := 3) (k' := 27) X (fun w h => sf_memc (inX6 w h)) rfl rfl (by decide) (X.1.2.2.2.2 _ (sf_memc tw_227)) (fun _ h9 => h9) rfl dX6_settle_73 rfl ?_
    refine sf_getR (C := RX3) (T := TX3) (N := 5) (ci := 3) (j := 1) (k' := 29) X (fun w h => sf_memc (inX3 w h)) rfl rfl (by decide) (X.1.2.2.2.2 _ (sf_memc tw_172)) (fun _ h9 => h9) rfl dX6_settle_76 rfl ?_
    obtain ⟨τ12, hR11, h⟩ := h
    refine sf_callVv (As := [.ref (q 29)]) (rest := []) (cv := (RX2, TX2, 2)) X rfl rfl (c_X2_copyFrom_2 hq hR11) (cwV 1 X.1.2.2.2.2 (sf_gV tw_501 tw_463 tw_464 tw_45 tw_465) rfl rfl rfl ⟨rfl, hd_X2_copyFrom⟩ ⟨Nat.le_of_ble_eq_true rfl, Nat.le_of_ble_eq_true rfl⟩) rfl rfl (Nat.le_of_ble_eq_true rfl) dX6_settle_79 rfl ?_
    refine sf_aload_n (i := 0) (j := 1) X dX6_settle_82 rfl rfl rfl ?_
    refine sf_getR (C := RX6) (T := TX6) (N := 11) (ci := 6) (j := 2) (k' := 22) X (fun w h => sf_memc (inX6 w h)) rfl rfl (by decide) (X.1.2.2.2.2 _ (sf_memc tw_226)) (fun _ h9 => h9) rfl dX6_settle_83 rfl ?_
    refine sf_aload_n (i := 0) (j := 1) X dX6_settle_86 rfl rfl rfl ?_
    refine sf_getR (C := RX6) (T := TX6) (N := 11) (ci := 6) (j := 1) (k' := 17) X (fun w h => sf_memc (inX6 w h)) rfl rfl (by decide) (X.1.2.2.2.2 _ (sf_memc tw_225)) (fun _ h9 => h9) rfl dX6_settle_87 rfl ?_
    obtain ⟨τ14, hR13, h⟩ := h
    refine sf_callVv (As := [.ref (q 17)]) (rest := []) (cv := (RX4, TX4, 4)) X rfl rfl (c_X4_copyFrom hq hR13) (cwV 1 X.1.2.2.2.2 (sf_gV tw_502 tw_503 tw_504 tw_43 tw_505) rfl rfl rfl ⟨rfl, hd_X4_copyFrom⟩ ⟨Nat.le_of_ble_eq_true rfl, Nat.le_of_ble_eq_true rfl⟩) rfl rfl (Nat.le_of_ble_eq_true rfl) dX6_settle_90 rfl ?_
    refine sf_aload_n (i := 0) (j := 1) X dX6_settle_93 rfl rfl rfl ?_
    refine sf_getR (C := RX6) (T := TX6) (N := 11) (ci := 6) (j := 2) (k' := 22) X (fun w h => sf_memc (inX6 w h)) rfl rfl (by decide) (X.1.2.2.2.2 _ (sf_memc tw_226)) (fun _ h9 => h9) rfl dX6_settle_94 rfl ?_
    obtain ⟨τ16, hR15, h⟩ := h
    refine sf_callVv (As := []) (rest := []) (cv := (RX4, TX4, 4)) X rfl rfl (c_X4_mirror hq hR15) (cwV 0 X.1.2.2.2.2 (sf_gV tw_507 tw_508 tw_509 tw_43 tw_510) rfl rfl rfl ⟨rfl, hd_X4_mirror⟩ ⟨Nat.le_of_ble_eq_true rfl, Nat.le_of_ble_eq_true rfl⟩) rfl rfl (Nat.le_of_ble_eq_true rfl) dX6_settle_97 rfl ?_
    refine sf_aload_n (i := 0) (j := 1) X dX6_settle_100 rfl rfl rfl ?_
    refine sf_aload_n (i := 0) (j := 1) X dX6_settle_101 rfl rfl rfl ?_
    refine sf_getR (C := RX6) (T := TX6) (N := 11) (ci := 6) (j := 3) (k' := 27) X (fun w h => sf_memc (inX6 w h)) rfl rfl (by decide) (X.1.2.2.2.2 _ (sf_memc tw_227)) (fun _ h9 => h9) rfl dX6_settle_102 rfl ?_
    refine sf_aload_n (i := 0) (j := 1) X dX6_settle_105 rfl rfl rfl ?_
    refine sf_getR (C := RX6) (T := TX6) (N := 11) (ci := 6) (j := 0) (k' := 1) X (fun w h => sf_memc (inX6 w h)) rfl rfl (by decide) (X.1.2.2.2.2 _ (sf_memc tw_224)) (fun _ h9 => h9) rfl dX6_settle_106 rfl ?_
    refine sf_aload_n (i := 0) (j := 1) X dX6_settle_109 rfl rfl rfl ?_
    refine sf_getR (C := RX6) (T := TX6) (N := 11) (ci := 6) (j := 2) (k' := 22) X (fun w h => sf_memc (inX6 w h)) rfl rfl (by decide) (X.1.2.2.2.2 _ (sf_memc tw_226)) (fun _ h9 => h9) rfl dX6_settle_110 rfl ?_
    obtain ⟨r19, τ18, hR17, h⟩ := h
    refine sf_callVi (As := [.ref (q 1), .ref (q 22)]) (rest := [.ref (q 0)]) (cv := (RX3, TX3, 5)) X rfl rfl (c_X3_leastSenses_2 hq hR17) (cwV 2 X.1.2.2.2.2 (sf_gV tw_428 tw_429 tw_430 tw_44 tw_431) rfl rfl rfl ⟨rfl, hd_X3_leastSenses⟩ ⟨Nat.le_of_ble_eq_true rfl, Nat.le_of_ble_eq_true rfl⟩) rfl rfl (Nat.le_of_ble_eq_true rfl) dX6_settle_113 rfl ?_
    refine sf_putI (C := RX6) (T := TX6) (N := 11) (ci := 6) (j := 9) (ty := .int) X (fun w h => sf_memc (inX6 w h)) rfl rfl (by decide) (X.1.2.2.2.2 _ (sf_memc tw_233)) (fun _ h9 => h9) tyX6 tyX6_ok nmX6 rfl (by decide +kernel) rfl rfl rfl dX6_settle_116 rfl (fun τ20 hτ20 => ?_)
    have h := h τ20 hτ20
    refine sf_aload_n (i := 0) (j := 1) X dX6_settle_119 rfl rfl rfl ?_
    refine sf_iconst (v := 1) X dX6_settle_120 sf_ic_1 rfl ?_
    refine sf_putI (C := RX6) (T := TX6) (N := 11) (ci := 6) (j := 10) (ty := .boolean) X (fun w h => sf_memc (inX6 w h)) rfl rfl (by decide) (X.1.2.2.2.2 _ (sf_memc tw_234)) (fun _ h9 => h9) tyX6 tyX6_ok nmX6 rfl (by decide +kernel) rfl rfl rfl dX6_settle_121 rfl (fun τ21 hτ21 => ?_)
    have h := h τ21 hτ21
    exact sf_retv X h dX6_settle_124
  · have h := sf_iff c1 h
    exact sf_retv X h dX6_settle_7
def R_X6_row (σ : sf_St) (u0 : Int32) (r : Int32) (τ : sf_St) : Prop :=
  ∃ (r3 : Int32) (τ2 : sf_St), R_X0_hasAtom σ u0 r3 τ2 ∧ (if r3 = (0 : Int32) then (r = (-1 : Int32) ∧ τ = τ2) else (∃ τ6 : sf_St, R_X6_settle τ2 τ6 ∧ (vp_in u0 7 ∧ (r = (τ6 37 (sf_ix u0)) ∧ τ = τ6))))
set_option maxHeartbeats 4000000 in
set_option maxRecDepth 100000 in
theorem c_X6_row {l : Launch} {D : va_G} {q : Nat → Nat} {dA : Nat → ClassId} {tv ta tb : Nat} (hq : sf_inj q KX) {σ τ : sf_St} {u0 : Int32} {r : Int32} (h : R_X6_row σ u0 r τ) : sf_Mi l yX6_row wsX6_row ({ frames := 15, cells := 0, slots := 0, locals := 370 }) D vwCl q dA KX (sf_EX q tv ta tb) [.ref (q 0), .int u0] σ r τ := by
  refine sf_meti (cc := cX6_row) (maxL := 2) (ret := (some .int)) (own := RX6) (by decide +kernel) rfl rfl hq sf_EXk (Nat.le_of_ble_eq_true rfl) ?_
  intro p e s m args below meth c X
  have hT := X.2.2.2.1.2.1
  unfold R_X6_row at h
  refine sf_loc (lv' := [(0, .ref (q 0)), (1, .int u0)]) [0, 1] rfl ?_
  refine sf_aload_n (i := 0) (j := 0) X dX6_row_0 rfl rfl rfl ?_
  refine sf_getR (C := RX6) (T := TX6) (N := 11) (ci := 6) (j := 0) (k' := 1) X (fun w h => sf_memc (inX6 w h)) rfl rfl (by decide) (X.1.2.2.2.2 _ (sf_memc tw_224)) (fun _ h9 => h9) rfl dX6_row_1 rfl ?_
  refine sf_iload_n (i := 1) (j := 1) X dX6_row_4 rfl rfl rfl ?_
  obtain ⟨r3, τ2, hR1, h⟩ := h
  refine sf_callVi (As := [.int u0]) (rest := []) (cv := (RX0, TX0, 10)) X rfl rfl (c_X0_hasAtom hq hR1) (cwV 1 X.1.2.2.2.2 (sf_gV tw_275 tw_276 tw_277 tw_42 tw_278) rfl rfl rfl ⟨rfl, hd_X0_hasAtom⟩ ⟨Nat.le_of_ble_eq_true rfl, Nat.le_of_ble_eq_true rfl⟩) rfl rfl (Nat.le_of_ble_eq_true rfl) dX6_row_5 rfl ?_
  refine sf_if_ne (tgt := 13) X dX6_row_8 rfl rfl (fun c4 => ?_) (fun c4 => ?_)
  · have h := sf_iff c4 h
    refine sf_aload_n (i := 0) (j := 0) X dX6_row_13 rfl rfl rfl ?_
    obtain ⟨τ6, hR5, h⟩ := h
    refine sf_callVv (As := []) (rest := []) (cv := (RX6, TX6, 11)) X rfl rfl (c_X6_settle hq hR5) (cwV 0 X.1.2.2.2.2 (sf_gV tw_411 tw_413 tw_3 tw_41 tw_414) rfl rfl rfl ⟨rfl, hd_X6_settle⟩ ⟨Nat.le_of_ble_eq_true rfl, Nat.le_of_ble_eq_true rfl⟩) rfl rfl (Nat.le_of_ble_eq_true rfl) dX6_row_14 rfl ?_
    refine sf_aload_n (i := 0) (j := 0) X dX6_row_17 rfl rfl rfl ?_
    refine sf_getR (C := RX6) (T := TX6) (N := 11) (ci := 6) (j := 4) (k' := 36) X (fun w h => sf_memc (inX6 w h)) rfl rfl (by decide) (X.1.2.2.2.2 _ (sf_memc tw_228)) (fun _ h9 => h9) rfl dX6_row_18 rfl ?_
    refine sf_getR (C := RX1) (T := TX1) (N := 3) (ci := 1) (j := 1) (k' := 37) X (fun w h => sf_memc (inX1 w h)) rfl rfl (by decide) (X.1.2.2.2.2 _ (sf_memc tw_196)) (fun _ h9 => h9) rfl dX6_row_21 rfl ?_
    refine sf_iload_n (i := 1) (j := 1) X dX6_row_24 rfl rfl rfl ?_
    obtain ⟨b7, h⟩ := h
    refine sf_iald X rfl b7 dX6_row_25 rfl ?_
    exact sf_reti X h dX6_row_26
  · have h := sf_ift c4 h
    refine sf_iconst (v := (-1)) X dX6_row_11 sf_ic_m1 rfl ?_
    exact sf_reti X h dX6_row_12
def R_X6_senses (σ : sf_St) (r : Int32) (τ : sf_St) : Prop :=
  ∃ τ2 : sf_St, R_X6_settle σ τ2 ∧ (r = (τ2 36 2) ∧ τ = τ2)
set_option maxHeartbeats 4000000 in
set_option maxRecDepth 100000 in
theorem c_X6_senses {l : Launch} {D : va_G} {q : Nat → Nat} {dA : Nat → ClassId} {tv ta tb : Nat} (hq : sf_inj q KX) {σ τ : sf_St} {r : Int32} (h : R_X6_senses σ  r τ) : sf_Mi l yX6_senses wsX6_senses ({ frames := 15, cells := 0, slots := 0, locals := 370 }) D vwCl q dA KX (sf_EX q tv ta tb) [.ref (q 0)] σ r τ := by
  refine sf_meti (cc := cX6_senses) (maxL := 1) (ret := (some .int)) (own := RX6) (by decide +kernel) rfl rfl hq sf_EXk (Nat.le_of_ble_eq_true rfl) ?_
  intro p e s m args below meth c X
  have hT := X.2.2.2.1.2.1
  unfold R_X6_senses at h
  refine sf_loc (lv' := [(0, .ref (q 0))]) [0] rfl ?_
  refine sf_aload_n (i := 0) (j := 0) X dX6_senses_0 rfl rfl rfl ?_
  obtain ⟨τ2, hR1, h⟩ := h
  refine sf_callVv (As := []) (rest := []) (cv := (RX6, TX6, 11)) X rfl rfl (c_X6_settle hq hR1) (cwV 0 X.1.2.2.2.2 (sf_gV tw_411 tw_413 tw_3 tw_41 tw_414) rfl rfl rfl ⟨rfl, hd_X6_settle⟩ ⟨Nat.le_of_ble_eq_true rfl, Nat.le_of_ble_eq_true rfl⟩) rfl rfl (Nat.le_of_ble_eq_true rfl) dX6_senses_1 rfl ?_
  refine sf_aload_n (i := 0) (j := 0) X dX6_senses_4 rfl rfl rfl ?_
  refine sf_getR (C := RX6) (T := TX6) (N := 11) (ci := 6) (j := 4) (k' := 36) X (fun w h => sf_memc (inX6 w h)) rfl rfl (by decide) (X.1.2.2.2.2 _ (sf_memc tw_228)) (fun _ h9 => h9) rfl dX6_senses_5 rfl ?_
  refine sf_getI (C := RX1) (T := TX1) (N := 3) (ci := 1) (j := 2) X (fun w h => sf_memc (inX1 w h)) rfl rfl (by decide) (X.1.2.2.2.2 _ (sf_memc tw_198)) (fun _ h9 => h9) rfl dX6_senses_8 rfl ?_
  exact sf_reti X h dX6_senses_11
def R_X6_chiral (σ : sf_St) (r : Int32) (τ : sf_St) : Prop :=
  ∃ τ2 : sf_St, R_X6_settle σ τ2 ∧ (if (τ2 0 9) = (τ2 36 2) then (r = (0 : Int32) ∧ τ = τ2) else (r = (1 : Int32) ∧ τ = τ2))
set_option maxHeartbeats 4000000 in
set_option maxRecDepth 100000 in
theorem c_X6_chiral {l : Launch} {D : va_G} {q : Nat → Nat} {dA : Nat → ClassId} {tv ta tb : Nat} (hq : sf_inj q KX) {σ τ : sf_St} {r : Int32} (h : R_X6_chiral σ  r τ) : sf_Mi l yX6_chiral wsX6_chiral ({ frames := 15, cells := 0, slots := 0, locals := 370 }) D vwCl q dA KX (sf_EX q tv ta tb) [.ref (q 0)] σ r τ := by
  refine sf_meti (cc := cX6_chiral) (maxL := 1) (ret := (some .boolean)) (own := RX6) (by decide +kernel) rfl rfl hq sf_EXk (Nat.le_of_ble_eq_true rfl) ?_
  intro p e s m args below meth c X
  have hT := X.2.2.2.1.2.1
  unfold R_X6_chiral at h
  refine sf_loc (lv' := [(0, .ref (q 0))]) [0] rfl ?_
  refine sf_aload_n (i := 0) (j := 0) X dX6_chiral_0 rfl rfl rfl ?_
  obtain ⟨τ2, hR1, h⟩ := h
  refine sf_callVv (As := []) (rest := []) (cv := (RX6, TX6, 11)) X rfl rfl (c_X6_settle hq hR1) (cwV 0 X.1.2.2.2.2 (sf_gV tw_411 tw_413 tw_3 tw_41 tw_414) rfl rfl rfl ⟨rfl, hd_X6_settle⟩ ⟨Nat.le_of_ble_eq_true rfl, Nat.le_of_ble_eq_true rfl⟩) rfl rfl (Nat.le_of_ble_eq_true rfl) dX6_chiral_1 rfl ?_
  refine sf_aload_n (i := 0) (j := 0) X dX6_chiral_4 rfl rfl rfl ?_
  refine sf_getI (C := RX6) (T := TX6) (N := 11) (ci := 6) (j := 9) X (fun w h => sf_memc (inX6 w h)) rfl rfl (by decide) (X.1.2.2.2.2 _ (sf_memc tw_233)) (fun _ h9 => h9) rfl dX6_chiral_5 rfl ?_
  refine sf_aload_n (i := 0) (j := 0) X dX6_chiral_8 rfl rfl rfl ?_
  refine sf_getR (C := RX6) (T := TX6) (N := 11) (ci := 6) (j := 4) (k' := 36) X (fun w h => sf_memc (inX6 w h)) rfl rfl (by decide) (X.1.2.2.2.2 _ (sf_memc tw_228)) (fun _ h9 => h9) rfl dX6_chiral_9 rfl ?_
  refine sf_getI (C := RX1) (T := TX1) (N := 3) (ci := 1) (j := 2) X (fun w h => sf_memc (inX1 w h)) rfl rfl (by decide) (X.1.2.2.2.2 _ (sf_memc tw_198)) (fun _ h9 => h9) rfl dX6_chiral_12 rfl ?_
  refine sf_icmp_eq (tgt := 22) X dX6_chiral_15 rfl rfl (fun c3 => ?_) (fun c3 => ?_)
  · have h := sf_ift c3 h
    refine sf_iconst (v := 0) X dX6_chiral_22 sf_ic_0 rfl ?_
    exact sf_retz X h rfl dX6_chiral_23
  · have h := sf_iff c3 h
    refine sf_iconst (v := 1) X dX6_chiral_18 sf_ic_1 rfl ?_
    refine sf_goto (tgt := 23) X dX6_chiral_19 rfl ?_
    exact sf_retz X h rfl dX6_chiral_23
def tr_R_X4_countDrawn_0 (Pr : Nat → sf_St → Int32 → Int32 → Prop) (r : Int32) (τ : sf_St) (σ : sf_St) (u0 u1 : Int32) : Prop :=
  Pr 1 σ (0 : Int32) (0 : Int32)
def tr_R_X4_countDrawn_1 (Pr : Nat → sf_St → Int32 → Int32 → Prop) (r : Int32) (τ : sf_St) (σ : sf_St) (u0 u1 : Int32) : Prop :=
  if (σ 1 3) ≤ u1 then (Pr 2 σ u0 (0 : Int32)) else (vp_in u1 7 ∧ (if (σ 18 (sf_ix u1)) = (0 : Int32) then (∀ y4 : Int32, y4 = (u0 + (0 : Int32)) → (∀ y5 : Int32, y5 = u1 + (1 : Int32) → (Pr 1 σ y4 y5))) else (∀ y6 : Int32, y6 = (u0 + (1 : Int32)) → (∀ y7 : Int32, y7 = u1 + (1 : Int32) → (Pr 1 σ y6 y7)))))
def tr_R_X4_countDrawn_2 (Pr : Nat → sf_St → Int32 → Int32 → Prop) (r : Int32) (τ : sf_St) (σ : sf_St) (u0 u1 : Int32) : Prop :=
  if (σ 1 8) ≤ u1 then (r = u0 ∧ τ = σ) else (vp_in u1 9 ∧ (if (σ 19 (sf_ix u1)) = (0 : Int32) then (∀ y11 : Int32, y11 = (u0 + (0 : Int32)) → (∀ y12 : Int32, y12 = u1 + (1 : Int32) → (Pr 2 σ y11 y12))) else (∀ y13 : Int32, y13 = (u0 + (1 : Int32)) → (∀ y14 : Int32, y14 = u1 + (1 : Int32) → (Pr 2 σ y13 y14)))))
def fn_R_X4_countDrawn (Pr : Nat → sf_St → Int32 → Int32 → Prop) (r : Int32) (τ : sf_St) (t : Nat) (σ : sf_St) (u0 u1 : Int32) : Prop := match t with
  | 0 => tr_R_X4_countDrawn_0 Pr r τ σ u0 u1
  | 1 => tr_R_X4_countDrawn_1 Pr r τ σ u0 u1
  | 2 => tr_R_X4_countDrawn_2 Pr r τ σ u0 u1
  | _ => False
def Rn_R_X4_countDrawn (t : Nat) (σ : sf_St) (u0 u1 : Int32) (r : Int32) (τ : sf_St) : Prop := ∀ Pr : Nat → sf_St → Int32 → Int32 → Prop, (∀ (t : Nat) (σ : sf_St) (u0 u1 : Int32), fn_R_X4_countDrawn Pr r τ t σ u0 u1 → Pr t σ u0 u1) → Pr t σ u0 u1
def R_X4_countDrawn (σ : sf_St) (r : Int32) (τ : sf_St) : Prop := Rn_R_X4_countDrawn 0 σ  0 0 r τ
theorem fe_R_X4_countDrawn_0 {Pr : Nat → sf_St → Int32 → Int32 → Prop} {r : Int32} {τ σ : sf_St} {u0 u1 : Int32} (h : fn_R_X4_countDrawn Pr r τ 0 σ u0 u1) : tr_R_X4_countDrawn_0 Pr r τ σ u0 u1 := h
theorem mo_R_X4_countDrawn_0 {Pr Pr' : Nat → sf_St → Int32 → Int32 → Prop} {r : Int32} {τ σ : sf_St} {u0 u1 : Int32} (hP : ∀ (t : Nat) (σ : sf_St) (u0 u1 : Int32), Pr t σ u0 u1 → Pr' t σ u0 u1) (h : tr_R_X4_countDrawn_0 Pr r τ σ u0 u1) : tr_R_X4_countDrawn_0 Pr' r τ σ u0 u1 := by
  unfold tr_R_X4_countDrawn_0 at h ⊢
  exact hP _ _ _ _ h
theorem ru_R_X4_countDrawn_0 {r : Int32} {τ σ : sf_St} {u0 u1 : Int32} (h : tr_R_X4_countDrawn_0 (fun t σ u0 u1 => Rn_R_X4_countDrawn t σ u0 u1 r τ) r τ σ u0 u1) : Rn_R_X4_countDrawn 0 σ u0 u1 r τ := fun Pr hP => hP 0 σ u0 u1 (mo_R_X4_countDrawn_0 (fun _ _ _ _ h => h Pr hP) h)
theorem fe_R_X4_countDrawn_1 {Pr : Nat → sf_St → Int32 → Int32 → Prop} {r : Int32} {τ σ : sf_St} {u0 u1 : Int32} (h : fn_R_X4_countDrawn Pr r τ 1 σ u0 u1) : tr_R_X4_countDrawn_1 Pr r τ σ u0 u1 := h
theorem mo_R_X4_countDrawn_1 {Pr Pr' : Nat → sf_St → Int32 → Int32 → Prop} {r : Int32} {τ σ : sf_St} {u0 u1 : Int32} (hP : ∀ (t : Nat) (σ : sf_St) (u0 u1 : Int32), Pr t σ u0 u1 → Pr' t σ u0 u1) (h : tr_R_X4_countDrawn_1 Pr r τ σ u0 u1) : tr_R_X4_countDrawn_1 Pr' r τ σ u0 u1 := by
  unfold tr_R_X4_countDrawn_1 at h ⊢
  refine sf_mif (fun h => ?_) (fun h => ?_) h
  · exact hP _ _ _ _ h
  · refine And.imp id (fun h => ?_) h
    refine sf_mif (fun h => ?_) (fun h => ?_) h
    · intro y4 hy4
      have h := h y4 hy4
      intro y5 hy5
      have h := h y5 hy5
      exact hP _ _ _ _ h
    · intro y6 hy6
      have h := h y6 hy6
      intro y7 hy7
      have h := h y7 hy7
      exact hP _ _ _ _ h
theorem ru_R_X4_countDrawn_1 {r : Int32} {τ σ : sf_St} {u0 u1 : Int32} (h : tr_R_X4_countDrawn_1 (fun t σ u0 u1 => Rn_R_X4_countDrawn t σ u0 u1 r τ) r τ σ u0 u1) : Rn_R_X4_countDrawn 1 σ u0 u1 r τ := fun Pr hP => hP 1 σ u0 u1 (mo_R_X4_countDrawn_1 (fun _ _ _ _ h => h Pr hP) h)
theorem fe_R_X4_countDrawn_2 {Pr : Nat → sf_St → Int32 → Int32 → Prop} {r : Int32} {τ σ : sf_St} {u0 u1 : Int32} (h : fn_R_X4_countDrawn Pr r τ 2 σ u0 u1) : tr_R_X4_countDrawn_2 Pr r τ σ u0 u1 := h
theorem mo_R_X4_countDrawn_2 {Pr Pr' : Nat → sf_St → Int32 → Int32 → Prop} {r : Int32} {τ σ : sf_St} {u0 u1 : Int32} (hP : ∀ (t : Nat) (σ : sf_St) (u0 u1 : Int32), Pr t σ u0 u1 → Pr' t σ u0 u1) (h : tr_R_X4_countDrawn_2 Pr r τ σ u0 u1) : tr_R_X4_countDrawn_2 Pr' r τ σ u0 u1 := by
  unfold tr_R_X4_countDrawn_2 at h ⊢
  refine sf_mif (fun h => ?_) (fun h => ?_) h
  · exact h
  · refine And.imp id (fun h => ?_) h
    refine sf_mif (fun h => ?_) (fun h => ?_) h
    · intro y11 hy11
      have h := h y11 hy11
      intro y12 hy12
      have h := h y12 hy12
      exact hP _ _ _ _ h
    · intro y13 hy13
      have h := h y13 hy13
      intro y14 hy14
      have h := h y14 hy14
      exact hP _ _ _ _ h
theorem ru_R_X4_countDrawn_2 {r : Int32} {τ σ : sf_St} {u0 u1 : Int32} (h : tr_R_X4_countDrawn_2 (fun t σ u0 u1 => Rn_R_X4_countDrawn t σ u0 u1 r τ) r τ σ u0 u1) : Rn_R_X4_countDrawn 2 σ u0 u1 r τ := fun Pr hP => hP 2 σ u0 u1 (mo_R_X4_countDrawn_2 (fun _ _ _ _ h => h Pr hP) h)
set_option maxHeartbeats 4000000 in
set_option maxRecDepth 100000 in
theorem c_X4_countDrawn {l : Launch} {D : va_G} {q : Nat → Nat} {dA : Nat → ClassId} {tv ta tb : Nat} (hq : sf_inj q KX) {σ τ : sf_St} {r : Int32} (h : R_X4_countDrawn σ  r τ) : sf_Mi l yX4_countDrawn wsX4_countDrawn ({ frames := 0, cells := 0, slots := 0, locals := 0 }) D vwCl q dA KX (sf_EX q tv ta tb) [.ref (q 17), .ref (q 1)] σ r τ := by
  refine sf_meti (cc := cX4_countDrawn) (maxL := 4) (ret := (some .int)) (own := RX4) (by decide +kernel) rfl rfl hq sf_EXk (Nat.le_of_ble_eq_true rfl) ?_
  intro p e s m args below meth c X
  have hT := X.2.2.2.1.2.1
  refine sf_loc (lv' := [(0, .ref (q 17)), (1, .ref (q 1))]) [0, 1] rfl ?_
  refine h (fun t σ u0 u1 => match t with
    | 0 => sf_G p l e (headSpec wsX4_countDrawn ({ frames := 0, cells := 0, slots := 0, locals := 0 })).room s m args below meth c (sf_Qi D vwCl q dA KX (sf_EX q tv ta tb) below args s r τ) 4 D vwCl q dA KX σ 0 [(0, .ref (q 17)), (1, .ref (q 1))] []
    | 1 => sf_G p l e (headSpec wsX4_countDrawn ({ frames := 0, cells := 0, slots := 0, locals := 0 })).room s m args below meth c (sf_Qi D vwCl q dA KX (sf_EX q tv ta tb) below args s r τ) 4 D vwCl q dA KX σ 4 [(0, .ref (q 17)), (1, .ref (q 1)), (2, .int u0), (3, .int u1)] []
    | 2 => sf_G p l e (headSpec wsX4_countDrawn ({ frames := 0, cells := 0, slots := 0, locals := 0 })).room s m args below meth c (sf_Qi D vwCl q dA KX (sf_EX q tv ta tb) below args s r τ) 4 D vwCl q dA KX σ 37 [(0, .ref (q 17)), (1, .ref (q 1)), (2, .int u0), (3, .int u1)] []
    | _ => True) ?_
  intro t σ u0 u1 h
  match t, h with
  | 0, h =>
      replace h := fe_R_X4_countDrawn_0 h
      unfold tr_R_X4_countDrawn_0 at h
      show sf_G p l e (headSpec wsX4_countDrawn ({ frames := 0, cells := 0, slots := 0, locals := 0 })).room s m args below meth c (sf_Qi D vwCl q dA KX (sf_EX q tv ta tb) below args s r τ) 4 D vwCl q dA KX σ 0 [(0, .ref (q 17)), (1, .ref (q 1))] []
      refine sf_iconst (v := 0) X dX4_countDrawn_0 sf_ic_0 rfl ?_
      refine sf_istore_n (i := 2) (lv' := [(2, .int (0 : Int32)), (0, .ref (q 17)), (1, .ref (q 1))]) X dX4_countDrawn_1 rfl (by decide) rfl rfl ?_
      refine sf_iconst (v := 0) X dX4_countDrawn_2 sf_ic_0 rfl ?_
      refine sf_istore_n (i := 3) (lv' := [(3, .int (0 : Int32)), (2, .int (0 : Int32)), (0, .ref (q 17)), (1, .ref (q 1))]) X dX4_countDrawn_3 rfl (by decide) rfl rfl ?_
      refine sf_loc (lv' := [(0, .ref (q 17)), (1, .ref (q 1)), (2, .int (0 : Int32)), (3, .int (0 : Int32))]) [2, 3, 1, 0] rfl ?_
      exact h
  | 1, h =>
      replace h := fe_R_X4_countDrawn_1 h
      unfold tr_R_X4_countDrawn_1 at h
      show sf_G p l e (headSpec wsX4_countDrawn ({ frames := 0, cells := 0, slots := 0, locals := 0 })).room s m args below meth c (sf_Qi D vwCl q dA KX (sf_EX q tv ta tb) below args s r τ) 4 D vwCl q dA KX σ 4 [(0, .ref (q 17)), (1, .ref (q 1)), (2, .int u0), (3, .int u1)] []
      refine sf_iload_n (i := 3) (j := 3) X dX4_countDrawn_4 rfl rfl rfl ?_
      refine sf_aload_n (i := 1) (j := 1) X dX4_countDrawn_5 rfl rfl rfl ?_
      refine sf_getI (C := RX0) (T := TX0) (N := 10) (ci := 0) (j := 3) X (fun w h => sf_memc (inX0 w h)) rfl rfl (by decide) (X.1.2.2.2.2 _ (sf_memc tw_82)) (fun _ h9 => h9) rfl dX4_countDrawn_6 rfl ?_
      refine sf_icmp_ge (tgt := 35) X dX4_countDrawn_9 rfl rfl (fun c1 => ?_) (fun c1 => ?_)
      · have h := sf_ift c1 h
        refine sf_iconst (v := 0) X dX4_countDrawn_35 sf_ic_0 rfl ?_
        refine sf_istore_n (i := 3) (lv' := [(3, .int (0 : Int32)), (0, .ref (q 17)), (1, .ref (q 1)), (2, .int u0)]) X dX4_countDrawn_36 rfl (by decide) rfl rfl ?_
        refine sf_loc (lv' := [(0, .ref (q 17)), (1, .ref (q 1)), (2, .int u0), (3, .int (0 : Int32))]) [1, 2, 3, 0] rfl ?_
        exact h
      · have h := sf_iff c1 h
        refine sf_iload_n (i := 2) (j := 2) X dX4_countDrawn_12 rfl rfl rfl ?_
        refine sf_aload_n (i := 0) (j := 0) X dX4_countDrawn_13 rfl rfl rfl ?_
        refine sf_getR (C := RX4) (T := TX4) (N := 4) (ci := 4) (j := 0) (k' := 18) X (fun w h => sf_memc (inX4 w h)) rfl rfl (by decide) (X.1.2.2.2.2 _ (sf_memc tw_129)) (fun _ h9 => h9) rfl dX4_countDrawn_14 rfl ?_
        refine sf_iload_n (i := 3) (j := 3) X dX4_countDrawn_17 rfl rfl rfl ?_
        obtain ⟨b2, h⟩ := h
        refine sf_iald X rfl b2 dX4_countDrawn_18 rfl ?_
        refine sf_if_eq (tgt := 26) X dX4_countDrawn_19 rfl rfl (fun c3 => ?_) (fun c3 => ?_)
        · have h := sf_ift c3 h
          refine sf_iconst (v := 0) X dX4_countDrawn_26 sf_ic_0 rfl ?_
          refine sf_iadd X dX4_countDrawn_27 rfl ?_
          refine sf_top (fun y4 hy4 => ?_)
          have h := h y4 hy4
          refine sf_istore_n (i := 2) (lv' := [(2, .int y4), (0, .ref (q 17)), (1, .ref (q 1)), (3, .int u1)]) X dX4_countDrawn_28 rfl (by decide) rfl rfl ?_
          refine sf_iinc (i := 3) (j := 3) (d := 1) (lv' := fun y5 => [(3, .int y5), (2, .int y4), (0, .ref (q 17)), (1, .ref (q 1))]) X dX4_countDrawn_29 rfl sf_ic_1 (by decide) (fun _ => rfl) rfl (fun y5 hy5 => ?_)
          have h := h y5 hy5
          refine sf_goto (tgt := 4) X dX4_countDrawn_32 rfl ?_
          refine sf_loc (lv' := [(0, .ref (q 17)), (1, .ref (q 1)), (2, .int y4), (3, .int y5)]) [2, 3, 1, 0] rfl ?_
          exact h
        · have h := sf_iff c3 h
          refine sf_iconst (v := 1) X dX4_countDrawn_22 sf_ic_1 rfl ?_
          refine sf_goto (tgt := 27) X dX4_countDrawn_23 rfl ?_
          refine sf_iadd X dX4_countDrawn_27 rfl ?_
          refine sf_top (fun y6 hy6 => ?_)
          have h := h y6 hy6
          refine sf_istore_n (i := 2) (lv' := [(2, .int y6), (0, .ref (q 17)), (1, .ref (q 1)), (3, .int u1)]) X dX4_countDrawn_28 rfl (by decide) rfl rfl ?_
          refine sf_iinc (i := 3) (j := 3) (d := 1) (lv' := fun y7 => [(3, .int y7), (2, .int y6), (0, .ref (q 17)), (1, .ref (q 1))]) X dX4_countDrawn_29 rfl sf_ic_1 (by decide) (fun _ => rfl) rfl (fun y7 hy7 => ?_)
          have h := h y7 hy7
          refine sf_goto (tgt := 4) X dX4_countDrawn_32 rfl ?_
          refine sf_loc (lv' := [(0, .ref (q 17)), (1, .ref (q 1)), (2, .int y6), (3, .int y7)]) [2, 3, 1, 0] rfl ?_
          exact h
  | 2, h =>
      replace h := fe_R_X4_countDrawn_2 h
      unfold tr_R_X4_countDrawn_2 at h
      show sf_G p l e (headSpec wsX4_countDrawn ({ frames := 0, cells := 0, slots := 0, locals := 0 })).room s m args below meth c (sf_Qi D vwCl q dA KX (sf_EX q tv ta tb) below args s r τ) 4 D vwCl q dA KX σ 37 [(0, .ref (q 17)), (1, .ref (q 1)), (2, .int u0), (3, .int u1)] []
      refine sf_iload_n (i := 3) (j := 3) X dX4_countDrawn_37 rfl rfl rfl ?_
      refine sf_aload_n (i := 1) (j := 1) X dX4_countDrawn_38 rfl rfl rfl ?_
      refine sf_getI (C := RX0) (T := TX0) (N := 10) (ci := 0) (j := 8) X (fun w h => sf_memc (inX0 w h)) rfl rfl (by decide) (X.1.2.2.2.2 _ (sf_memc tw_97)) (fun _ h9 => h9) rfl dX4_countDrawn_39 rfl ?_
      refine sf_icmp_ge (tgt := 68) X dX4_countDrawn_42 rfl rfl (fun c8 => ?_) (fun c8 => ?_)
      · have h := sf_ift c8 h
        refine sf_iload_n (i := 2) (j := 2) X dX4_countDrawn_68 rfl rfl rfl ?_
        exact sf_reti X h dX4_countDrawn_69
      · have h := sf_iff c8 h
        refine sf_iload_n (i := 2) (j := 2) X dX4_countDrawn_45 rfl rfl rfl ?_
        refine sf_aload_n (i := 0) (j := 0) X dX4_countDrawn_46 rfl rfl rfl ?_
        refine sf_getR (C := RX4) (T := TX4) (N := 4) (ci := 4) (j := 1) (k' := 19) X (fun w h => sf_memc (inX4 w h)) rfl rfl (by decide) (X.1.2.2.2.2 _ (sf_memc tw_131)) (fun _ h9 => h9) rfl dX4_countDrawn_47 rfl ?_
        refine sf_iload_n (i := 3) (j := 3) X dX4_countDrawn_50 rfl rfl rfl ?_
        obtain ⟨b9, h⟩ := h
        refine sf_iald X rfl b9 dX4_countDrawn_51 rfl ?_
        refine sf_if_eq (tgt := 59) X dX4_countDrawn_52 rfl rfl (fun c10 => ?_) (fun c10 => ?_)
        · have h := sf_ift c10 h
          refine sf_iconst (v := 0) X dX4_countDrawn_59 sf_ic_0 rfl ?_
          refine sf_iadd X dX4_countDrawn_60 rfl ?_
          refine sf_top (fun y11 hy11 => ?_)
          have h := h y11 hy11
          refine sf_istore_n (i := 2) (lv' := [(2, .int y11), (0, .ref (q 17)), (1, .ref (q 1)), (3, .int u1)]) X dX4_countDrawn_61 rfl (by decide) rfl rfl ?_
          refine sf_iinc (i := 3) (j := 3) (d := 1) (lv' := fun y12 => [(3, .int y12), (2, .int y11), (0, .ref (q 17)), (1, .ref (q 1))]) X dX4_countDrawn_62 rfl sf_ic_1 (by decide) (fun _ => rfl) rfl (fun y12 hy12 => ?_)
          have h := h y12 hy12
          refine sf_goto (tgt := 37) X dX4_countDrawn_65 rfl ?_
          refine sf_loc (lv' := [(0, .ref (q 17)), (1, .ref (q 1)), (2, .int y11), (3, .int y12)]) [2, 3, 1, 0] rfl ?_
          exact h
        · have h := sf_iff c10 h
          refine sf_iconst (v := 1) X dX4_countDrawn_55 sf_ic_1 rfl ?_
          refine sf_goto (tgt := 60) X dX4_countDrawn_56 rfl ?_
          refine sf_iadd X dX4_countDrawn_60 rfl ?_
          refine sf_top (fun y13 hy13 => ?_)
          have h := h y13 hy13
          refine sf_istore_n (i := 2) (lv' := [(2, .int y13), (0, .ref (q 17)), (1, .ref (q 1)), (3, .int u1)]) X dX4_countDrawn_61 rfl (by decide) rfl rfl ?_
          refine sf_iinc (i := 3) (j := 3) (d := 1) (lv' := fun y14 => [(3, .int y14), (2, .int y13), (0, .ref (q 17)), (1, .ref (q 1))]) X dX4_countDrawn_62 rfl sf_ic_1 (by decide) (fun _ => rfl) rfl (fun y14 hy14 => ?_)
          have h := h y14 hy14
          refine sf_goto (tgt := 37) X dX4_countDrawn_65 rfl ?_
          refine sf_loc (lv' := [(0, .ref (q 17)), (1, .ref (q 1)), (2, .int y13), (3, .int y14)]) [2, 3, 1, 0] rfl ?_
          exact h
  | (_ + 3), _ => exact trivial
def tr_R_X4_turnSome_0 (Pr : Nat → sf_St → Int32 → Int32 → Int32 → Prop) (τ : sf_St) (σ : sf_St) (u0 u1 u2 : Int32) : Prop :=
  Pr 1 σ u0 u0 (0 : Int32)
def tr_R_X4_turnSome_1 (Pr : Nat → sf_St → Int32 → Int32 → Int32 → Prop) (τ : sf_St) (σ : sf_St) (u0 u1 u2 : Int32) : Prop :=
  if (σ 1 3) ≤ u2 then (Pr 2 σ u0 u1 (0 : Int32)) else (vp_in u2 7 ∧ (if (σ 23 (sf_ix u2)) = (0 : Int32) then (∀ y4 : Int32, y4 = u2 + (1 : Int32) → (Pr 1 σ u0 u1 y4)) else (if (u1 &&& (1 : Int32)) = (0 : Int32) then (vp_in u2 7 ∧ (vp_in u2 7 ∧ (∀ τ8 : sf_St, τ8 = sf_up σ 23 (sf_ix u2) (σ 23 (sf_ix u2)) → (∀ y9 : Int32, y9 = (u1 >>> ((1 : Int32) &&& 31)) → (∀ y10 : Int32, y10 = u2 + (1 : Int32) → (Pr 1 τ8 u0 y9 y10)))))) else (vp_in u2 7 ∧ (vp_in u2 7 ∧ (∀ τ13 : sf_St, τ13 = sf_up σ 23 (sf_ix u2) (-(σ 23 (sf_ix u2))) → (∀ y14 : Int32, y14 = (u1 >>> ((1 : Int32) &&& 31)) → (∀ y15 : Int32, y15 = u2 + (1 : Int32) → (Pr 1 τ13 u0 y14 y15)))))))))
def tr_R_X4_turnSome_2 (Pr : Nat → sf_St → Int32 → Int32 → Int32 → Prop) (τ : sf_St) (σ : sf_St) (u0 u1 u2 : Int32) : Prop :=
  if (σ 1 8) ≤ u2 then (τ = σ) else (vp_in u2 9 ∧ (if (σ 24 (sf_ix u2)) = (0 : Int32) then (∀ y19 : Int32, y19 = u2 + (1 : Int32) → (Pr 2 σ u0 u1 y19)) else (if (u1 &&& (1 : Int32)) = (0 : Int32) then (vp_in u2 9 ∧ (vp_in u2 9 ∧ (∀ τ23 : sf_St, τ23 = sf_up σ 24 (sf_ix u2) (σ 24 (sf_ix u2)) → (∀ y24 : Int32, y24 = (u1 >>> ((1 : Int32) &&& 31)) → (∀ y25 : Int32, y25 = u2 + (1 : Int32) → (Pr 2 τ23 u0 y24 y25)))))) else (vp_in u2 9 ∧ (vp_in u2 9 ∧ (∀ τ28 : sf_St, τ28 = sf_up σ 24 (sf_ix u2) (-(σ 24 (sf_ix u2))) → (∀ y29 : Int32, y29 = (u1 >>> ((1 : Int32) &&& 31)) → (∀ y30 : Int32, y30 = u2 + (1 : Int32) → (Pr 2 τ28 u0 y29 y30)))))))))
def fn_R_X4_turnSome (Pr : Nat → sf_St → Int32 → Int32 → Int32 → Prop) (τ : sf_St) (t : Nat) (σ : sf_St) (u0 u1 u2 : Int32) : Prop := match t with
  | 0 => tr_R_X4_turnSome_0 Pr τ σ u0 u1 u2
  | 1 => tr_R_X4_turnSome_1 Pr τ σ u0 u1 u2
  | 2 => tr_R_X4_turnSome_2 Pr τ σ u0 u1 u2
  | _ => False
def Rn_R_X4_turnSome (t : Nat) (σ : sf_St) (u0 u1 u2 : Int32) (τ : sf_St) : Prop := ∀ Pr : Nat → sf_St → Int32 → Int32 → Int32 → Prop, (∀ (t : Nat) (σ : sf_St) (u0 u1 u2 : Int32), fn_R_X4_turnSome Pr τ t σ u0 u1 u2 → Pr t σ u0 u1 u2) → Pr t σ u0 u1 u2
def R_X4_turnSome (σ : sf_St) (u0 : Int32) (τ : sf_St) : Prop := Rn_R_X4_turnSome 0 σ u0 0 0 τ
theorem fe_R_X4_turnSome_0 {Pr : Nat → sf_St → Int32 → Int32 → Int32 → Prop} {τ σ : sf_St} {u0 u1 u2 : Int32} (h : fn_R_X4_turnSome Pr τ 0 σ u0 u1 u2) : tr_R_X4_turnSome_0 Pr τ σ u0 u1 u2 := h
theorem mo_R_X4_turnSome_0 {Pr Pr' : Nat → sf_St → Int32 → Int32 → Int32 → Prop} {τ σ : sf_St} {u0 u1 u2 : Int32} (hP : ∀ (t : Nat) (σ : sf_St) (u0 u1 u2 : Int32), Pr t σ u0 u1 u2 → Pr' t σ u0 u1 u2) (h : tr_R_X4_turnSome_0 Pr τ σ u0 u1 u2) : tr_R_X4_turnSome_0 Pr' τ σ u0 u1 u2 := by
  unfold tr_R_X4_turnSome_0 at h ⊢
  exact hP _ _ _ _ _ h
theorem ru_R_X4_turnSome_0 {τ σ : sf_St} {u0 u1 u2 : Int32} (h : tr_R_X4_turnSome_0 (fun t σ u0 u1 u2 => Rn_R_X4_turnSome t σ u0 u1 u2 τ) τ σ u0 u1 u2) : Rn_R_X4_turnSome 0 σ u0 u1 u2 τ := fun Pr hP => hP 0 σ u0 u1 u2 (mo_R_X4_turnSome_0 (fun _ _ _ _ _ h => h Pr hP) h)
theorem fe_R_X4_turnSome_1 {Pr : Nat → sf_St → Int32 → Int32 → Int32 → Prop} {τ σ : sf_St} {u0 u1 u2 : Int32} (h : fn_R_X4_turnSome Pr τ 1 σ u0 u1 u2) : tr_R_X4_turnSome_1 Pr τ σ u0 u1 u2 := h
theorem mo_R_X4_turnSome_1 {Pr Pr' : Nat → sf_St → Int32 → Int32 → Int32 → Prop} {τ σ : sf_St} {u0 u1 u2 : Int32} (hP : ∀ (t : Nat) (σ : sf_St) (u0 u1 u2 : Int32), Pr t σ u0 u1 u2 → Pr' t σ u0 u1 u2) (h : tr_R_X4_turnSome_1 Pr τ σ u0 u1 u2) : tr_R_X4_turnSome_1 Pr' τ σ u0 u1 u2 := by
  unfold tr_R_X4_turnSome_1 at h ⊢
  refine sf_mif (fun h => ?_) (fun h => ?_) h
  · exact hP _ _ _ _ _ h
  · refine And.imp id (fun h => ?_) h
    refine sf_mif (fun h => ?_) (fun h => ?_) h
    · intro y4 hy4
      have h := h y4 hy4
      exact hP _ _ _ _ _ h
    · refine sf_mif (fun h => ?_) (fun h => ?_) h
      · refine And.imp id (fun h => ?_) h
        refine And.imp id (fun h => ?_) h
        intro τ8 hτ8
        have h := h τ8 hτ8
        intro y9 hy9
        have h := h y9 hy9
        intro y10 hy10
        have h := h y10 hy10
        exact hP _ _ _ _ _ h
      · refine And.imp id (fun h => ?_) h
        refine And.imp id (fun h => ?_) h
        intro τ13 hτ13
        have h := h τ13 hτ13
        intro y14 hy14
        have h := h y14 hy14
        intro y15 hy15
        have h := h y15 hy15
        exact hP _ _ _ _ _ h
theorem ru_R_X4_turnSome_1 {τ σ : sf_St} {u0 u1 u2 : Int32} (h : tr_R_X4_turnSome_1 (fun t σ u0 u1 u2 => Rn_R_X4_turnSome t σ u0 u1 u2 τ) τ σ u0 u1 u2) : Rn_R_X4_turnSome 1 σ u0 u1 u2 τ := fun Pr hP => hP 1 σ u0 u1 u2 (mo_R_X4_turnSome_1 (fun _ _ _ _ _ h => h Pr hP) h)
theorem fe_R_X4_turnSome_2 {Pr : Nat → sf_St → Int32 → Int32 → Int32 → Prop} {τ σ : sf_St} {u0 u1 u2 : Int32} (h : fn_R_X4_turnSome Pr τ 2 σ u0 u1 u2) : tr_R_X4_turnSome_2 Pr τ σ u0 u1 u2 := h
theorem mo_R_X4_turnSome_2 {Pr Pr' : Nat → sf_St → Int32 → Int32 → Int32 → Prop} {τ σ : sf_St} {u0 u1 u2 : Int32} (hP : ∀ (t : Nat) (σ : sf_St) (u0 u1 u2 : Int32), Pr t σ u0 u1 u2 → Pr' t σ u0 u1 u2) (h : tr_R_X4_turnSome_2 Pr τ σ u0 u1 u2) : tr_R_X4_turnSome_2 Pr' τ σ u0 u1 u2 := by
  unfold tr_R_X4_turnSome_2 at h ⊢
  refine sf_mif (fun h => ?_) (fun h => ?_) h
  · exact h
  · refine And.imp id (fun h => ?_) h
    refine sf_mif (fun h => ?_) (fun h => ?_) h
    · intro y19 hy19
      have h := h y19 hy19
      exact hP _ _ _ _ _ h
    · refine sf_mif (fun h => ?_) (fun h => ?_) h
      · refine And.imp id (fun h => ?_) h
        refine And.imp id (fun h => ?_) h
        intro τ23 hτ23
        have h := h τ23 hτ23
        intro y24 hy24
        have h := h y24 hy24
        intro y25 hy25
        have h := h y25 hy25
        exact hP _ _ _ _ _ h
      · refine And.imp id (fun h => ?_) h
        refine And.imp id (fun h => ?_) h
        intro τ28 hτ28
        have h := h τ28 hτ28
        intro y29 hy29
        have h := h y29 hy29
        intro y30 hy30
        have h := h y30 hy30
        exact hP _ _ _ _ _ h
theorem ru_R_X4_turnSome_2 {τ σ : sf_St} {u0 u1 u2 : Int32} (h : tr_R_X4_turnSome_2 (fun t σ u0 u1 u2 => Rn_R_X4_turnSome t σ u0 u1 u2 τ) τ σ u0 u1 u2) : Rn_R_X4_turnSome 2 σ u0 u1 u2 τ := fun Pr hP => hP 2 σ u0 u1 u2 (mo_R_X4_turnSome_2 (fun _ _ _ _ _ h => h Pr hP) h)
set_option maxHeartbeats 4000000 in
set_option maxRecDepth 100000 in
theorem c_X4_turnSome {l : Launch} {D : va_G} {q : Nat → Nat} {dA : Nat → ClassId} {tv ta tb : Nat} (hq : sf_inj q KX) {σ τ : sf_St} {u0 : Int32} (h : R_X4_turnSome σ u0 τ) : sf_Mv l yX4_turnSome wsX4_turnSome ({ frames := 0, cells := 0, slots := 0, locals := 0 }) D vwCl q dA KX (sf_EX q tv ta tb) [.ref (q 22), .ref (q 1), .int u0] σ τ := by
  refine sf_metv (cc := cX4_turnSome) (maxL := 5) (ret := none) (own := RX4) (by decide +kernel) rfl rfl hq sf_EXk (Nat.le_of_ble_eq_true rfl) ?_
  intro p e s m args below meth c X
  have hT := X.2.2.2.1.2.1
  refine sf_loc (lv' := [(0, .ref (q 22)), (1, .ref (q 1)), (2, .int u0)]) [0, 1, 2] rfl ?_
  refine h (fun t σ u0 u1 u2 => match t with
    | 0 => sf_G p l e (headSpec wsX4_turnSome ({ frames := 0, cells := 0, slots := 0, locals := 0 })).room s m args below meth c (sf_Qv D vwCl q dA KX (sf_EX q tv ta tb) below args s τ) 5 D vwCl q dA KX σ 0 [(0, .ref (q 22)), (1, .ref (q 1)), (2, .int u0)] []
    | 1 => sf_G p l e (headSpec wsX4_turnSome ({ frames := 0, cells := 0, slots := 0, locals := 0 })).room s m args below meth c (sf_Qv D vwCl q dA KX (sf_EX q tv ta tb) below args s τ) 5 D vwCl q dA KX σ 5 [(0, .ref (q 22)), (1, .ref (q 1)), (2, .int u0), (3, .int u1), (4, .int u2)] []
    | 2 => sf_G p l e (headSpec wsX4_turnSome ({ frames := 0, cells := 0, slots := 0, locals := 0 })).room s m args below meth c (sf_Qv D vwCl q dA KX (sf_EX q tv ta tb) below args s τ) 5 D vwCl q dA KX σ 68 [(0, .ref (q 22)), (1, .ref (q 1)), (2, .int u0), (3, .int u1), (4, .int u2)] []
    | _ => True) ?_
  intro t σ u0 u1 u2 h
  match t, h with
  | 0, h =>
      replace h := fe_R_X4_turnSome_0 h
      unfold tr_R_X4_turnSome_0 at h
      show sf_G p l e (headSpec wsX4_turnSome ({ frames := 0, cells := 0, slots := 0, locals := 0 })).room s m args below meth c (sf_Qv D vwCl q dA KX (sf_EX q tv ta tb) below args s τ) 5 D vwCl q dA KX σ 0 [(0, .ref (q 22)), (1, .ref (q 1)), (2, .int u0)] []
      refine sf_iload_n (i := 2) (j := 2) X dX4_turnSome_0 rfl rfl rfl ?_
      refine sf_istore_n (i := 3) (lv' := [(3, .int u0), (0, .ref (q 22)), (1, .ref (q 1)), (2, .int u0)]) X dX4_turnSome_1 rfl (by decide) rfl rfl ?_
      refine sf_iconst (v := 0) X dX4_turnSome_2 sf_ic_0 rfl ?_
      refine sf_istore (i := 4) (lv' := [(4, .int (0 : Int32)), (3, .int u0), (0, .ref (q 22)), (1, .ref (q 1)), (2, .int u0)]) X dX4_turnSome_3 (by decide) rfl rfl ?_
      refine sf_loc (lv' := [(0, .ref (q 22)), (1, .ref (q 1)), (2, .int u0), (3, .int u0), (4, .int (0 : Int32))]) [2, 3, 4, 1, 0] rfl ?_
      exact h
  | 1, h =>
      replace h := fe_R_X4_turnSome_1 h
      unfold tr_R_X4_turnSome_1 at h
      show sf_G p l e (headSpec wsX4_turnSome ({ frames := 0, cells := 0, slots := 0, locals := 0 })).room s m args below meth c (sf_Qv D vwCl q dA KX (sf_EX q tv ta tb) below args s τ) 5 D vwCl q dA KX σ 5 [(0, .ref (q 22)), (1, .ref (q 1)), (2, .int u0), (3, .int u1), (4, .int u2)] []
      refine sf_iload (i := 4) (j := 4) X dX4_turnSome_5 rfl rfl ?_
      refine sf_aload_n (i := 1) (j := 1) X dX4_turnSome_7 rfl rfl rfl ?_
      refine sf_getI (C := RX0) (T := TX0) (N := 10) (ci := 0) (j := 3) X (fun w h => sf_memc (inX0 w h)) rfl rfl (by decide) (X.1.2.2.2.2 _ (sf_memc tw_82)) (fun _ h9 => h9) rfl dX4_turnSome_8 rfl ?_
      refine sf_icmp_ge (tgt := 65) X dX4_turnSome_11 rfl rfl (fun c1 => ?_) (fun c1 => ?_)
      · have h := sf_ift c1 h
        refine sf_iconst (v := 0) X dX4_turnSome_65 sf_ic_0 rfl ?_
        refine sf_istore (i := 4) (lv' := [(4, .int (0 : Int32)), (0, .ref (q 22)), (1, .ref (q 1)), (2, .int u0), (3, .int u1)]) X dX4_turnSome_66 (by decide) rfl rfl ?_
        refine sf_loc (lv' := [(0, .ref (q 22)), (1, .ref (q 1)), (2, .int u0), (3, .int u1), (4, .int (0 : Int32))]) [1, 2, 3, 4, 0] rfl ?_
        exact h
      · have h := sf_iff c1 h
        refine sf_aload_n (i := 0) (j := 0) X dX4_turnSome_14 rfl rfl rfl ?_
        refine sf_getR (C := RX4) (T := TX4) (N := 4) (ci := 4) (j := 0) (k' := 23) X (fun w h => sf_memc (inX4 w h)) rfl rfl (by decide) (X.1.2.2.2.2 _ (sf_memc tw_129)) (fun _ h9 => h9) rfl dX4_turnSome_15 rfl ?_
        refine sf_iload (i := 4) (j := 4) X dX4_turnSome_18 rfl rfl ?_
        obtain ⟨b2, h⟩ := h
        refine sf_iald X rfl b2 dX4_turnSome_20 rfl ?_
        refine sf_if_eq (tgt := 59) X dX4_turnSome_21 rfl rfl (fun c3 => ?_) (fun c3 => ?_)
        · have h := sf_ift c3 h
          refine sf_iinc (i := 4) (j := 4) (d := 1) (lv' := fun y4 => [(4, .int y4), (0, .ref (q 22)), (1, .ref (q 1)), (2, .int u0), (3, .int u1)]) X dX4_turnSome_59 rfl sf_ic_1 (by decide) (fun _ => rfl) rfl (fun y4 hy4 => ?_)
          have h := h y4 hy4
          refine sf_goto (tgt := 5) X dX4_turnSome_62 rfl ?_
          refine sf_loc (lv' := [(0, .ref (q 22)), (1, .ref (q 1)), (2, .int u0), (3, .int u1), (4, .int y4)]) [1, 2, 3, 4, 0] rfl ?_
          exact h
        · have h := sf_iff c3 h
          refine sf_aload_n (i := 0) (j := 0) X dX4_turnSome_24 rfl rfl rfl ?_
          refine sf_getR (C := RX4) (T := TX4) (N := 4) (ci := 4) (j := 0) (k' := 23) X (fun w h => sf_memc (inX4 w h)) rfl rfl (by decide) (X.1.2.2.2.2 _ (sf_memc tw_129)) (fun _ h9 => h9) rfl dX4_turnSome_25 rfl ?_
          refine sf_iload (i := 4) (j := 4) X dX4_turnSome_28 rfl rfl ?_
          refine sf_iload_n (i := 3) (j := 3) X dX4_turnSome_30 rfl rfl rfl ?_
          refine sf_iconst (v := 1) X dX4_turnSome_31 sf_ic_1 rfl ?_
          refine sf_iand X dX4_turnSome_32 rfl ?_
          refine sf_if_eq (tgt := 47) X dX4_turnSome_33 rfl rfl (fun c5 => ?_) (fun c5 => ?_)
          · have h := sf_ift c5 h
            refine sf_aload_n (i := 0) (j := 0) X dX4_turnSome_47 rfl rfl rfl ?_
            refine sf_getR (C := RX4) (T := TX4) (N := 4) (ci := 4) (j := 0) (k' := 23) X (fun w h => sf_memc (inX4 w h)) rfl rfl (by decide) (X.1.2.2.2.2 _ (sf_memc tw_129)) (fun _ h9 => h9) rfl dX4_turnSome_48 rfl ?_
            refine sf_iload (i := 4) (j := 4) X dX4_turnSome_51 rfl rfl ?_
            obtain ⟨b6, h⟩ := h
            refine sf_iald X rfl b6 dX4_turnSome_53 rfl ?_
            obtain ⟨b7, h⟩ := h
            refine sf_iast X rfl b7 dX4_turnSome_54 rfl (fun τ8 hτ8 => ?_)
            have h := h τ8 hτ8
            refine sf_iload_n (i := 3) (j := 3) X dX4_turnSome_55 rfl rfl rfl ?_
            refine sf_iconst (v := 1) X dX4_turnSome_56 sf_ic_1 rfl ?_
            refine sf_ishr X dX4_turnSome_57 rfl ?_
            refine sf_top (fun y9 hy9 => ?_)
            have h := h y9 hy9
            refine sf_istore_n (i := 3) (lv' := [(3, .int y9), (0, .ref (q 22)), (1, .ref (q 1)), (2, .int u0), (4, .int u2)]) X dX4_turnSome_58 rfl (by decide) rfl rfl ?_
            refine sf_iinc (i := 4) (j := 4) (d := 1) (lv' := fun y10 => [(4, .int y10), (3, .int y9), (0, .ref (q 22)), (1, .ref (q 1)), (2, .int u0)]) X dX4_turnSome_59 rfl sf_ic_1 (by decide) (fun _ => rfl) rfl (fun y10 hy10 => ?_)
            have h := h y10 hy10
            refine sf_goto (tgt := 5) X dX4_turnSome_62 rfl ?_
            refine sf_loc (lv' := [(0, .ref (q 22)), (1, .ref (q 1)), (2, .int u0), (3, .int y9), (4, .int y10)]) [2, 3, 4, 1, 0] rfl ?_
            exact h
          · have h := sf_iff c5 h
            refine sf_aload_n (i := 0) (j := 0) X dX4_turnSome_36 rfl rfl rfl ?_
            refine sf_getR (C := RX4) (T := TX4) (N := 4) (ci := 4) (j := 0) (k' := 23) X (fun w h => sf_memc (inX4 w h)) rfl rfl (by decide) (X.1.2.2.2.2 _ (sf_memc tw_129)) (fun _ h9 => h9) rfl dX4_turnSome_37 rfl ?_
            refine sf_iload (i := 4) (j := 4) X dX4_turnSome_40 rfl rfl ?_
            obtain ⟨b11, h⟩ := h
            refine sf_iald X rfl b11 dX4_turnSome_42 rfl ?_
            refine sf_ineg X dX4_turnSome_43 rfl ?_
            refine sf_goto (tgt := 54) X dX4_turnSome_44 rfl ?_
            obtain ⟨b12, h⟩ := h
            refine sf_iast X rfl b12 dX4_turnSome_54 rfl (fun τ13 hτ13 => ?_)
            have h := h τ13 hτ13
            refine sf_iload_n (i := 3) (j := 3) X dX4_turnSome_55 rfl rfl rfl ?_
            refine sf_iconst (v := 1) X dX4_turnSome_56 sf_ic_1 rfl ?_
            refine sf_ishr X dX4_turnSome_57 rfl ?_
            refine sf_top (fun y14 hy14 => ?_)
            have h := h y14 hy14
            refine sf_istore_n (i := 3) (lv' := [(3, .int y14), (0, .ref (q 22)), (1, .ref (q 1)), (2, .int u0), (4, .int u2)]) X dX4_turnSome_58 rfl (by decide) rfl rfl ?_
            refine sf_iinc (i := 4) (j := 4) (d := 1) (lv' := fun y15 => [(4, .int y15), (3, .int y14), (0, .ref (q 22)), (1, .ref (q 1)), (2, .int u0)]) X dX4_turnSome_59 rfl sf_ic_1 (by decide) (fun _ => rfl) rfl (fun y15 hy15 => ?_)
            have h := h y15 hy15
            refine sf_goto (tgt := 5) X dX4_turnSome_62 rfl ?_
            refine sf_loc (lv' := [(0, .ref (q 22)), (1, .ref (q 1)), (2, .int u0), (3, .int y14), (4, .int y15)]) [2, 3, 4, 1, 0] rfl ?_
            exact h
  | 2, h =>
      replace h := fe_R_X4_turnSome_2 h
      unfold tr_R_X4_turnSome_2 at h
      show sf_G p l e (headSpec wsX4_turnSome ({ frames := 0, cells := 0, slots := 0, locals := 0 })).room s m args below meth c (sf_Qv D vwCl q dA KX (sf_EX q tv ta tb) below args s τ) 5 D vwCl q dA KX σ 68 [(0, .ref (q 22)), (1, .ref (q 1)), (2, .int u0), (3, .int u1), (4, .int u2)] []
      refine sf_iload (i := 4) (j := 4) X dX4_turnSome_68 rfl rfl ?_
      refine sf_aload_n (i := 1) (j := 1) X dX4_turnSome_70 rfl rfl rfl ?_
      refine sf_getI (C := RX0) (T := TX0) (N := 10) (ci := 0) (j := 8) X (fun w h => sf_memc (inX0 w h)) rfl rfl (by decide) (X.1.2.2.2.2 _ (sf_memc tw_97)) (fun _ h9 => h9) rfl dX4_turnSome_71 rfl ?_
      refine sf_icmp_ge (tgt := 128) X dX4_turnSome_74 rfl rfl (fun c16 => ?_) (fun c16 => ?_)
      · have h := sf_ift c16 h
        exact sf_retv X h dX4_turnSome_128
      · have h := sf_iff c16 h
        refine sf_aload_n (i := 0) (j := 0) X dX4_turnSome_77 rfl rfl rfl ?_
        refine sf_getR (C := RX4) (T := TX4) (N := 4) (ci := 4) (j := 1) (k' := 24) X (fun w h => sf_memc (inX4 w h)) rfl rfl (by decide) (X.1.2.2.2.2 _ (sf_memc tw_131)) (fun _ h9 => h9) rfl dX4_turnSome_78 rfl ?_
        refine sf_iload (i := 4) (j := 4) X dX4_turnSome_81 rfl rfl ?_
        obtain ⟨b17, h⟩ := h
        refine sf_iald X rfl b17 dX4_turnSome_83 rfl ?_
        refine sf_if_eq (tgt := 122) X dX4_turnSome_84 rfl rfl (fun c18 => ?_) (fun c18 => ?_)
        · have h := sf_ift c18 h
          refine sf_iinc (i := 4) (j := 4) (d := 1) (lv' := fun y19 => [(4, .int y19), (0, .ref (q 22)), (1, .ref (q 1)), (2, .int u0), (3, .int u1)]) X dX4_turnSome_122 rfl sf_ic_1 (by decide) (fun _ => rfl) rfl (fun y19 hy19 => ?_)
          have h := h y19 hy19
          refine sf_goto (tgt := 68) X dX4_turnSome_125 rfl ?_
          refine sf_loc (lv' := [(0, .ref (q 22)), (1, .ref (q 1)), (2, .int u0), (3, .int u1), (4, .int y19)]) [1, 2, 3, 4, 0] rfl ?_
          exact h
        · have h := sf_iff c18 h
          refine sf_aload_n (i := 0) (j := 0) X dX4_turnSome_87 rfl rfl rfl ?_
          refine sf_getR (C := RX4) (T := TX4) (N := 4) (ci := 4) (j := 1) (k' := 24) X (fun w h => sf_memc (inX4 w h)) rfl rfl (by decide) (X.1.2.2.2.2 _ (sf_memc tw_131)) (fun _ h9 => h9) rfl dX4_turnSome_88 rfl ?_
          refine sf_iload (i := 4) (j := 4) X dX4_turnSome_91 rfl rfl ?_
          refine sf_iload_n (i := 3) (j := 3) X dX4_turnSome_93 rfl rfl rfl ?_
          refine sf_iconst (v := 1) X dX4_turnSome_94 sf_ic_1 rfl ?_
          refine sf_iand X dX4_turnSome_95 rfl ?_
          refine sf_if_eq (tgt := 110) X dX4_turnSome_96 rfl rfl (fun c20 => ?_) (fun c20 => ?_)
          · have h := sf_ift c20 h
            refine sf_aload_n (i := 0) (j := 0) X dX4_turnSome_110 rfl rfl rfl ?_
            refine sf_getR (C := RX4) (T := TX4) (N := 4) (ci := 4) (j := 1) (k' := 24) X (fun w h => sf_memc (inX4 w h)) rfl rfl (by decide) (X.1.2.2.2.2 _ (sf_memc tw_131)) (fun _ h9 => h9) rfl dX4_turnSome_111 rfl ?_
            refine sf_iload (i := 4) (j := 4) X dX4_turnSome_114 rfl rfl ?_
            obtain ⟨b21, h⟩ := h
            refine sf_iald X rfl b21 dX4_turnSome_116 rfl ?_
            obtain ⟨b22, h⟩ := h
            refine sf_iast X rfl b22 dX4_turnSome_117 rfl (fun τ23 hτ23 => ?_)
            have h := h τ23 hτ23
            refine sf_iload_n (i := 3) (j := 3) X dX4_turnSome_118 rfl rfl rfl ?_
            refine sf_iconst (v := 1) X dX4_turnSome_119 sf_ic_1 rfl ?_
            refine sf_ishr X dX4_turnSome_120 rfl ?_
            refine sf_top (fun y24 hy24 => ?_)
            have h := h y24 hy24
            refine sf_istore_n (i := 3) (lv' := [(3, .int y24), (0, .ref (q 22)), (1, .ref (q 1)), (2, .int u0), (4, .int u2)]) X dX4_turnSome_121 rfl (by decide) rfl rfl ?_
            refine sf_iinc (i := 4) (j := 4) (d := 1) (lv' := fun y25 => [(4, .int y25), (3, .int y24), (0, .ref (q 22)), (1, .ref (q 1)), (2, .int u0)]) X dX4_turnSome_122 rfl sf_ic_1 (by decide) (fun _ => rfl) rfl (fun y25 hy25 => ?_)
            have h := h y25 hy25
            refine sf_goto (tgt := 68) X dX4_turnSome_125 rfl ?_
            refine sf_loc (lv' := [(0, .ref (q 22)), (1, .ref (q 1)), (2, .int u0), (3, .int y24), (4, .int y25)]) [2, 3, 4, 1, 0] rfl ?_
            exact h
          · have h := sf_iff c20 h
            refine sf_aload_n (i := 0) (j := 0) X dX4_turnSome_99 rfl rfl rfl ?_
            refine sf_getR (C := RX4) (T := TX4) (N := 4) (ci := 4) (j := 1) (k' := 24) X (fun w h => sf_memc (inX4 w h)) rfl rfl (by decide) (X.1.2.2.2.2 _ (sf_memc tw_131)) (fun _ h9 => h9) rfl dX4_turnSome_100 rfl ?_
            refine sf_iload (i := 4) (j := 4) X dX4_turnSome_103 rfl rfl ?_
            obtain ⟨b26, h⟩ := h
            refine sf_iald X rfl b26 dX4_turnSome_105 rfl ?_
            refine sf_ineg X dX4_turnSome_106 rfl ?_
            refine sf_goto (tgt := 117) X dX4_turnSome_107 rfl ?_
            obtain ⟨b27, h⟩ := h
            refine sf_iast X rfl b27 dX4_turnSome_117 rfl (fun τ28 hτ28 => ?_)
            have h := h τ28 hτ28
            refine sf_iload_n (i := 3) (j := 3) X dX4_turnSome_118 rfl rfl rfl ?_
            refine sf_iconst (v := 1) X dX4_turnSome_119 sf_ic_1 rfl ?_
            refine sf_ishr X dX4_turnSome_120 rfl ?_
            refine sf_top (fun y29 hy29 => ?_)
            have h := h y29 hy29
            refine sf_istore_n (i := 3) (lv' := [(3, .int y29), (0, .ref (q 22)), (1, .ref (q 1)), (2, .int u0), (4, .int u2)]) X dX4_turnSome_121 rfl (by decide) rfl rfl ?_
            refine sf_iinc (i := 4) (j := 4) (d := 1) (lv' := fun y30 => [(4, .int y30), (3, .int y29), (0, .ref (q 22)), (1, .ref (q 1)), (2, .int u0)]) X dX4_turnSome_122 rfl sf_ic_1 (by decide) (fun _ => rfl) rfl (fun y30 hy30 => ?_)
            have h := h y30 hy30
            refine sf_goto (tgt := 68) X dX4_turnSome_125 rfl ?_
            refine sf_loc (lv' := [(0, .ref (q 22)), (1, .ref (q 1)), (2, .int u0), (3, .int y29), (4, .int y30)]) [2, 3, 4, 1, 0] rfl ?_
            exact h
  | (_ + 3), _ => exact trivial
def tr_R_X6_isFound_0 (Pr : Nat → sf_St → Int32 → Int32 → Int32 → Prop) (r : Int32) (τ : sf_St) (σ : sf_St) (u0 u1 u2 : Int32) : Prop :=
  Pr 1 σ u0 u1 (0 : Int32)
def tr_R_X6_isFound_1 (Pr : Nat → sf_St → Int32 → Int32 → Int32 → Prop) (r : Int32) (τ : sf_St) (σ : sf_St) (u0 u1 u2 : Int32) : Prop :=
  if u1 ≤ u2 then (r = (0 : Int32) ∧ τ = σ) else (vp_in u2 16 ∧ (if (σ 45 (sf_ix u2)) = u0 then (r = (1 : Int32) ∧ τ = σ) else (∀ y4 : Int32, y4 = u2 + (1 : Int32) → (Pr 1 σ u0 u1 y4))))
def fn_R_X6_isFound (Pr : Nat → sf_St → Int32 → Int32 → Int32 → Prop) (r : Int32) (τ : sf_St) (t : Nat) (σ : sf_St) (u0 u1 u2 : Int32) : Prop := match t with
  | 0 => tr_R_X6_isFound_0 Pr r τ σ u0 u1 u2
  | 1 => tr_R_X6_isFound_1 Pr r τ σ u0 u1 u2
  | _ => False
def Rn_R_X6_isFound (t : Nat) (σ : sf_St) (u0 u1 u2 : Int32) (r : Int32) (τ : sf_St) : Prop := ∀ Pr : Nat → sf_St → Int32 → Int32 → Int32 → Prop, (∀ (t : Nat) (σ : sf_St) (u0 u1 u2 : Int32), fn_R_X6_isFound Pr r τ t σ u0 u1 u2 → Pr t σ u0 u1 u2) → Pr t σ u0 u1 u2
def R_X6_isFound (σ : sf_St) (u0 u1 : Int32) (r : Int32) (τ : sf_St) : Prop := Rn_R_X6_isFound 0 σ u0 u1 0 r τ
theorem fe_R_X6_isFound_0 {Pr : Nat → sf_St → Int32 → Int32 → Int32 → Prop} {r : Int32} {τ σ : sf_St} {u0 u1 u2 : Int32} (h : fn_R_X6_isFound Pr r τ 0 σ u0 u1 u2) : tr_R_X6_isFound_0 Pr r τ σ u0 u1 u2 := h
theorem mo_R_X6_isFound_0 {Pr Pr' : Nat → sf_St → Int32 → Int32 → Int32 → Prop} {r : Int32} {τ σ : sf_St} {u0 u1 u2 : Int32} (hP : ∀ (t : Nat) (σ : sf_St) (u0 u1 u2 : Int32), Pr t σ u0 u1 u2 → Pr' t σ u0 u1 u2) (h : tr_R_X6_isFound_0 Pr r τ σ u0 u1 u2) : tr_R_X6_isFound_0 Pr' r τ σ u0 u1 u2 := by
  unfold tr_R_X6_isFound_0 at h ⊢
  exact hP _ _ _ _ _ h
theorem ru_R_X6_isFound_0 {r : Int32} {τ σ : sf_St} {u0 u1 u2 : Int32} (h : tr_R_X6_isFound_0 (fun t σ u0 u1 u2 => Rn_R_X6_isFound t σ u0 u1 u2 r τ) r τ σ u0 u1 u2) : Rn_R_X6_isFound 0 σ u0 u1 u2 r τ := fun Pr hP => hP 0 σ u0 u1 u2 (mo_R_X6_isFound_0 (fun _ _ _ _ _ h => h Pr hP) h)
theorem fe_R_X6_isFound_1 {Pr : Nat → sf_St → Int32 → Int32 → Int32 → Prop} {r : Int32} {τ σ : sf_St} {u0 u1 u2 : Int32} (h : fn_R_X6_isFound Pr r τ 1 σ u0 u1 u2) : tr_R_X6_isFound_1 Pr r τ σ u0 u1 u2 := h
theorem mo_R_X6_isFound_1 {Pr Pr' : Nat → sf_St → Int32 → Int32 → Int32 → Prop} {r : Int32} {τ σ : sf_St} {u0 u1 u2 : Int32} (hP : ∀ (t : Nat) (σ : sf_St) (u0 u1 u2 : Int32), Pr t σ u0 u1 u2 → Pr' t σ u0 u1 u2) (h : tr_R_X6_isFound_1 Pr r τ σ u0 u1 u2) : tr_R_X6_isFound_1 Pr' r τ σ u0 u1 u2 := by
  unfold tr_R_X6_isFound_1 at h ⊢
  refine sf_mif (fun h => ?_) (fun h => ?_) h
  · exact h
  · refine And.imp id (fun h => ?_) h
    refine sf_mif (fun h => ?_) (fun h => ?_) h
    · exact h
    · intro y4 hy4
      have h := h y4 hy4
      exact hP _ _ _ _ _ h
theorem ru_R_X6_isFound_1 {r : Int32} {τ σ : sf_St} {u0 u1 u2 : Int32} (h : tr_R_X6_isFound_1 (fun t σ u0 u1 u2 => Rn_R_X6_isFound t σ u0 u1 u2 r τ) r τ σ u0 u1 u2) : Rn_R_X6_isFound 1 σ u0 u1 u2 r τ := fun Pr hP => hP 1 σ u0 u1 u2 (mo_R_X6_isFound_1 (fun _ _ _ _ _ h => h Pr hP) h)
set_option maxHeartbeats 4000000 in
set_option maxRecDepth 100000 in
theorem c_X6_isFound {l : Launch} {D : va_G} {q : Nat → Nat} {dA : Nat → ClassId} {tv ta tb : Nat} (hq : sf_inj q KX) {σ τ : sf_St} {u0 u1 : Int32} {r : Int32} (h : R_X6_isFound σ u0 u1 r τ) : sf_Mi l yX6_isFound wsX6_isFound ({ frames := 0, cells := 0, slots := 0, locals := 0 }) D vwCl q dA KX (sf_EX q tv ta tb) [.ref (q 0), .int u0, .int u1] σ r τ := by
  refine sf_meti (cc := cX6_isFound) (maxL := 4) (ret := (some .boolean)) (own := RX6) (by decide +kernel) rfl rfl hq sf_EXk (Nat.le_of_ble_eq_true rfl) ?_
  intro p e s m args below meth c X
  have hT := X.2.2.2.1.2.1
  refine sf_loc (lv' := [(0, .ref (q 0)), (1, .int u0), (2, .int u1)]) [0, 1, 2] rfl ?_
  refine h (fun t σ u0 u1 u2 => match t with
    | 0 => sf_G p l e (headSpec wsX6_isFound ({ frames := 0, cells := 0, slots := 0, locals := 0 })).room s m args below meth c (sf_Qi D vwCl q dA KX (sf_EX q tv ta tb) below args s r τ) 4 D vwCl q dA KX σ 0 [(0, .ref (q 0)), (1, .int u0), (2, .int u1)] []
    | 1 => sf_G p l e (headSpec wsX6_isFound ({ frames := 0, cells := 0, slots := 0, locals := 0 })).room s m args below meth c (sf_Qi D vwCl q dA KX (sf_EX q tv ta tb) below args s r τ) 4 D vwCl q dA KX σ 2 [(0, .ref (q 0)), (1, .int u0), (2, .int u1), (3, .int u2)] []
    | _ => True) ?_
  intro t σ u0 u1 u2 h
  match t, h with
  | 0, h =>
      replace h := fe_R_X6_isFound_0 h
      unfold tr_R_X6_isFound_0 at h
      show sf_G p l e (headSpec wsX6_isFound ({ frames := 0, cells := 0, slots := 0, locals := 0 })).room s m args below meth c (sf_Qi D vwCl q dA KX (sf_EX q tv ta tb) below args s r τ) 4 D vwCl q dA KX σ 0 [(0, .ref (q 0)), (1, .int u0), (2, .int u1)] []
      refine sf_iconst (v := 0) X dX6_isFound_0 sf_ic_0 rfl ?_
      refine sf_istore_n (i := 3) (lv' := [(3, .int (0 : Int32)), (0, .ref (q 0)), (1, .int u0), (2, .int u1)]) X dX6_isFound_1 rfl (by decide) rfl rfl ?_
      refine sf_loc (lv' := [(0, .ref (q 0)), (1, .int u0), (2, .int u1), (3, .int (0 : Int32))]) [1, 2, 3, 0] rfl ?_
      exact h
  | 1, h =>
      replace h := fe_R_X6_isFound_1 h
      unfold tr_R_X6_isFound_1 at h
      show sf_G p l e (headSpec wsX6_isFound ({ frames := 0, cells := 0, slots := 0, locals := 0 })).room s m args below meth c (sf_Qi D vwCl q dA KX (sf_EX q tv ta tb) below args s r τ) 4 D vwCl q dA KX σ 2 [(0, .ref (q 0)), (1, .int u0), (2, .int u1), (3, .int u2)] []
      refine sf_iload_n (i := 3) (j := 3) X dX6_isFound_2 rfl rfl rfl ?_
      refine sf_iload_n (i := 2) (j := 2) X dX6_isFound_3 rfl rfl rfl ?_
      refine sf_icmp_ge (tgt := 25) X dX6_isFound_4 rfl rfl (fun c1 => ?_) (fun c1 => ?_)
      · have h := sf_ift c1 h
        refine sf_iconst (v := 0) X dX6_isFound_25 sf_ic_0 rfl ?_
        exact sf_retz X h rfl dX6_isFound_26
      · have h := sf_iff c1 h
        refine sf_aload_n (i := 0) (j := 0) X dX6_isFound_7 rfl rfl rfl ?_
        refine sf_getR (C := RX6) (T := TX6) (N := 11) (ci := 6) (j := 8) (k' := 45) X (fun w h => sf_memc (inX6 w h)) rfl rfl (by decide) (X.1.2.2.2.2 _ (sf_memc tw_232)) (fun _ h9 => h9) rfl dX6_isFound_8 rfl ?_
        refine sf_iload_n (i := 3) (j := 3) X dX6_isFound_11 rfl rfl rfl ?_
        obtain ⟨b2, h⟩ := h
        refine sf_iald X rfl b2 dX6_isFound_12 rfl ?_
        refine sf_iload_n (i := 1) (j := 1) X dX6_isFound_13 rfl rfl rfl ?_
        refine sf_icmp_ne (tgt := 19) X dX6_isFound_14 rfl rfl (fun c3 => ?_) (fun c3 => ?_)
        · have h := sf_iff c3 h
          refine sf_iinc (i := 3) (j := 3) (d := 1) (lv' := fun y4 => [(3, .int y4), (0, .ref (q 0)), (1, .int u0), (2, .int u1)]) X dX6_isFound_19 rfl sf_ic_1 (by decide) (fun _ => rfl) rfl (fun y4 hy4 => ?_)
          have h := h y4 hy4
          refine sf_goto (tgt := 2) X dX6_isFound_22 rfl ?_
          refine sf_loc (lv' := [(0, .ref (q 0)), (1, .int u0), (2, .int u1), (3, .int y4)]) [1, 2, 3, 0] rfl ?_
          exact h
        · have h := sf_ift c3 h
          refine sf_iconst (v := 1) X dX6_isFound_17 sf_ic_1 rfl ?_
          exact sf_retz X h rfl dX6_isFound_18
  | (_ + 2), _ => exact trivial
def tr_R_X6_isomers_0 (Pr : Nat → sf_St → Int32 → Int32 → Int32 → Prop) (r : Int32) (τ : sf_St) (σ : sf_St) (u0 u1 u2 : Int32) : Prop :=
  ∃ τ2 : sf_St, R_X6_settle σ τ2 ∧ (∃ (r5 : Int32) (τ4 : sf_St), R_X4_countDrawn τ2 r5 τ4 ∧ (if r5 ≤ (4 : Int32) then (Pr 1 τ4 r5 (0 : Int32) (0 : Int32)) else (r = (-1 : Int32) ∧ τ = τ4)))
def tr_R_X6_isomers_1 (Pr : Nat → sf_St → Int32 → Int32 → Int32 → Prop) (r : Int32) (τ : sf_St) (σ : sf_St) (u0 u1 u2 : Int32) : Prop :=
  if ((1 : Int32) <<< (u0 &&& 31)) ≤ u2 then (r = u1 ∧ τ = σ) else (∃ τ9 : sf_St, R_X4_copyFrom σ τ9 ∧ (∃ τ11 : sf_St, R_X4_turnSome τ9 u2 τ11 ∧ (∃ (r14 : Int32) (τ13 : sf_St), R_X3_leastSenses 23 24 25 26 τ11 r14 τ13 ∧ (∃ (r17 : Int32) (τ16 : sf_St), R_X6_isFound τ13 r14 u1 r17 τ16 ∧ (if r17 = (0 : Int32) then (vp_in u1 16 ∧ (∀ τ21 : sf_St, τ21 = sf_up τ16 45 (sf_ix u1) r14 → (∀ y22 : Int32, y22 = u1 + (1 : Int32) → (∀ y23 : Int32, y23 = u2 + (1 : Int32) → (Pr 1 τ21 u0 y22 y23))))) else (∀ y19 : Int32, y19 = u2 + (1 : Int32) → (Pr 1 τ16 u0 u1 y19)))))))
def fn_R_X6_isomers (Pr : Nat → sf_St → Int32 → Int32 → Int32 → Prop) (r : Int32) (τ : sf_St) (t : Nat) (σ : sf_St) (u0 u1 u2 : Int32) : Prop := match t with
  | 0 => tr_R_X6_isomers_0 Pr r τ σ u0 u1 u2
  | 1 => tr_R_X6_isomers_1 Pr r τ σ u0 u1 u2
  | _ => False
def Rn_R_X6_isomers (t : Nat) (σ : sf_St) (u0 u1 u2 : Int32) (r : Int32) (τ : sf_St) : Prop := ∀ Pr : Nat → sf_St → Int32 → Int32 → Int32 → Prop, (∀ (t : Nat) (σ : sf_St) (u0 u1 u2 : Int32), fn_R_X6_isomers Pr r τ t σ u0 u1 u2 → Pr t σ u0 u1 u2) → Pr t σ u0 u1 u2
def R_X6_isomers (σ : sf_St) (r : Int32) (τ : sf_St) : Prop := Rn_R_X6_isomers 0 σ  0 0 0 r τ
theorem fe_R_X6_isomers_0 {Pr : Nat → sf_St → Int32 → Int32 → Int32 → Prop} {r : Int32} {τ σ : sf_St} {u0 u1 u2 : Int32} (h : fn_R_X6_isomers Pr r τ 0 σ u0 u1 u2) : tr_R_X6_isomers_0 Pr r τ σ u0 u1 u2 := h
theorem mo_R_X6_isomers_0 {Pr Pr' : Nat → sf_St → Int32 → Int32 → Int32 → Prop} {r : Int32} {τ σ : sf_St} {u0 u1 u2 : Int32} (hP : ∀ (t : Nat) (σ : sf_St) (u0 u1 u2 : Int32), Pr t σ u0 u1 u2 → Pr' t σ u0 u1 u2) (h : tr_R_X6_isomers_0 Pr r τ σ u0 u1 u2) : tr_R_X6_isomers_0 Pr' r τ σ u0 u1 u2 := by
  unfold tr_R_X6_isomers_0 at h ⊢
  refine Exists.imp (fun _ h => And.imp id (fun h => ?_) h) h
  refine Exists.imp (fun _ h => Exists.imp (fun _ h => And.imp id (fun h => ?_) h) h) h
  refine sf_mif (fun h => ?_) (fun h => ?_) h
  · exact hP _ _ _ _ _ h
  · exact h
theorem ru_R_X6_isomers_0 {r : Int32} {τ σ : sf_St} {u0 u1 u2 : Int32} (h : tr_R_X6_isomers_0 (fun t σ u0 u1 u2 => Rn_R_X6_isomers t σ u0 u1 u2 r τ) r τ σ u0 u1 u2) : Rn_R_X6_isomers 0 σ u0 u1 u2 r τ := fun Pr hP => hP 0 σ u0 u1 u2 (mo_R_X6_isomers_0 (fun _ _ _ _ _ h => h Pr hP) h)
theorem fe_R_X6_isomers_1 {Pr : Nat → sf_St → Int32 → Int32 → Int32 → Prop} {r : Int32} {τ σ : sf_St} {u0 u1 u2 : Int32} (h : fn_R_X6_isomers Pr r τ 1 σ u0 u1 u2) : tr_R_X6_isomers_1 Pr r τ σ u0 u1 u2 := h
theorem mo_R_X6_isomers_1 {Pr Pr' : Nat → sf_St → Int32 → Int32 → Int32 → Prop} {r : Int32} {τ σ : sf_St} {u0 u1 u2 : Int32} (hP : ∀ (t : Nat) (σ : sf_St) (u0 u1 u2 : Int32), Pr t σ u0 u1 u2 → Pr' t σ u0 u1 u2) (h : tr_R_X6_isomers_1 Pr r τ σ u0 u1 u2) : tr_R_X6_isomers_1 Pr' r τ σ u0 u1 u2 := by
  unfold tr_R_X6_isomers_1 at h ⊢
  refine sf_mif (fun h => ?_) (fun h => ?_) h
  · exact h
  · refine Exists.imp (fun _ h => And.imp id (fun h => ?_) h) h
    refine Exists.imp (fun _ h => And.imp id (fun h => ?_) h) h
    refine Exists.imp (fun _ h => Exists.imp (fun _ h => And.imp id (fun h => ?_) h) h) h
    refine Exists.imp (fun _ h => Exists.imp (fun _ h => And.imp id (fun h => ?_) h) h) h
    refine sf_mif (fun h => ?_) (fun h => ?_) h
    · refine And.imp id (fun h => ?_) h
      intro τ21 hτ21
      have h := h τ21 hτ21
      intro y22 hy22
      have h := h y22 hy22
      intro y23 hy23
      have h := h y23 hy23
      exact hP _ _ _ _ _ h
    · intro y19 hy19
      have h := h y19 hy19
      exact hP _ _ _ _ _ h
theorem ru_R_X6_isomers_1 {r : Int32} {τ σ : sf_St} {u0 u1 u2 : Int32} (h : tr_R_X6_isomers_1 (fun t σ u0 u1 u2 => Rn_R_X6_isomers t σ u0 u1 u2 r τ) r τ σ u0 u1 u2) : Rn_R_X6_isomers 1 σ u0 u1 u2 r τ := fun Pr hP => hP 1 σ u0 u1 u2 (mo_R_X6_isomers_1 (fun _ _ _ _ _ h => h Pr hP) h)
set_option maxHeartbeats 4000000 in
set_option maxRecDepth 100000 in
theorem c_X6_isomers {l : Launch} {D : va_G} {q : Nat → Nat} {dA : Nat → ClassId} {tv ta tb : Nat} (hq : sf_inj q KX) {σ τ : sf_St} {r : Int32} (h : R_X6_isomers σ  r τ) : sf_Mi l yX6_isomers wsX6_isomers ({ frames := 15, cells := 0, slots := 0, locals := 370 }) D vwCl q dA KX (sf_EX q tv ta tb) [.ref (q 0)] σ r τ := by
  refine sf_meti (cc := cX6_isomers) (maxL := 5) (ret := (some .int)) (own := RX6) (by decide +kernel) rfl rfl hq sf_EXk (Nat.le_of_ble_eq_true rfl) ?_
  intro p e s m args below meth c X
  have hT := X.2.2.2.1.2.1
  refine sf_loc (lv' := [(0, .ref (q 0))]) [0] rfl ?_
  refine h (fun t σ u0 u1 u2 => match t with
    | 0 => sf_G p l e (headSpec wsX6_isomers ({ frames := 15, cells := 0, slots := 0, locals := 370 })).room s m args below meth c (sf_Qi D vwCl q dA KX (sf_EX q tv ta tb) below args s r τ) 5 D vwCl q dA KX σ 0 [(0, .ref (q 0))] []
    | 1 => sf_G p l e (headSpec wsX6_isomers ({ frames := 15, cells := 0, slots := 0, locals := 370 })).room s m args below meth c (sf_Qi D vwCl q dA KX (sf_EX q tv ta tb) below args s r τ) 5 D vwCl q dA KX σ 27 [(0, .ref (q 0)), (1, .int u0), (2, .int u1), (3, .int u2)] []
    | _ => True) ?_
  intro t σ u0 u1 u2 h
  match t, h with
  | 0, h =>
      replace h := fe_R_X6_isomers_0 h
      unfold tr_R_X6_isomers_0 at h
      show sf_G p l e (headSpec wsX6_isomers ({ frames := 15, cells := 0, slots := 0, locals := 370 })).room s m args below meth c (sf_Qi D vwCl q dA KX (sf_EX q tv ta tb) below args s r τ) 5 D vwCl q dA KX σ 0 [(0, .ref (q 0))] []
      refine sf_aload_n (i := 0) (j := 0) X dX6_isomers_0 rfl rfl rfl ?_
      obtain ⟨τ2, hR1, h⟩ := h
      refine sf_callVv (As := []) (rest := []) (cv := (RX6, TX6, 11)) X rfl rfl (c_X6_settle hq hR1) (cwV 0 X.1.2.2.2.2 (sf_gV tw_411 tw_413 tw_3 tw_41 tw_414) rfl rfl rfl ⟨rfl, hd_X6_settle⟩ ⟨Nat.le_of_ble_eq_true rfl, Nat.le_of_ble_eq_true rfl⟩) rfl rfl (Nat.le_of_ble_eq_true rfl) dX6_isomers_1 rfl ?_
      refine sf_aload_n (i := 0) (j := 0) X dX6_isomers_4 rfl rfl rfl ?_
      refine sf_getR (C := RX6) (T := TX6) (N := 11) (ci := 6) (j := 1) (k' := 17) X (fun w h => sf_memc (inX6 w h)) rfl rfl (by decide) (X.1.2.2.2.2 _ (sf_memc tw_225)) (fun _ h9 => h9) rfl dX6_isomers_5 rfl ?_
      refine sf_aload_n (i := 0) (j := 0) X dX6_isomers_8 rfl rfl rfl ?_
      refine sf_getR (C := RX6) (T := TX6) (N := 11) (ci := 6) (j := 0) (k' := 1) X (fun w h => sf_memc (inX6 w h)) rfl rfl (by decide) (X.1.2.2.2.2 _ (sf_memc tw_224)) (fun _ h9 => h9) rfl dX6_isomers_9 rfl ?_
      obtain ⟨r5, τ4, hR3, h⟩ := h
      refine sf_callVi (As := [.ref (q 1)]) (rest := []) (cv := (RX4, TX4, 4)) X rfl rfl (c_X4_countDrawn hq hR3) (cwV 1 X.1.2.2.2.2 (sf_gV tw_523 tw_524 tw_525 tw_43 tw_526) rfl rfl rfl ⟨rfl, hd_X4_countDrawn⟩ ⟨Nat.le_of_ble_eq_true rfl, Nat.le_of_ble_eq_true rfl⟩) rfl rfl (Nat.le_of_ble_eq_true rfl) dX6_isomers_12 rfl ?_
      refine sf_istore_n (i := 1) (lv' := [(1, .int r5), (0, .ref (q 0))]) X dX6_isomers_15 rfl (by decide) rfl rfl ?_
      refine sf_iload_n (i := 1) (j := 0) X dX6_isomers_16 rfl rfl rfl ?_
      refine sf_iconst (v := 4) X dX6_isomers_17 sf_ic_4 rfl ?_
      refine sf_icmp_le (tgt := 23) X dX6_isomers_18 rfl rfl (fun c6 => ?_) (fun c6 => ?_)
      · have h := sf_ift c6 h
        refine sf_iconst (v := 0) X dX6_isomers_23 sf_ic_0 rfl ?_
        refine sf_istore_n (i := 2) (lv' := [(2, .int (0 : Int32)), (1, .int r5), (0, .ref (q 0))]) X dX6_isomers_24 rfl (by decide) rfl rfl ?_
        refine sf_iconst (v := 0) X dX6_isomers_25 sf_ic_0 rfl ?_
        refine sf_istore_n (i := 3) (lv' := [(3, .int (0 : Int32)), (2, .int (0 : Int32)), (1, .int r5), (0, .ref (q 0))]) X dX6_isomers_26 rfl (by decide) rfl rfl ?_
        refine sf_loc (lv' := [(0, .ref (q 0)), (1, .int r5), (2, .int (0 : Int32)), (3, .int (0 : Int32))]) [3, 2, 1, 0] rfl ?_
        exact h
      · have h := sf_iff c6 h
        refine sf_iconst (v := (-1)) X dX6_isomers_21 sf_ic_m1 rfl ?_
        exact sf_reti X h dX6_isomers_22
  | 1, h =>
      replace h := fe_R_X6_isomers_1 h
      unfold tr_R_X6_isomers_1 at h
      show sf_G p l e (headSpec wsX6_isomers ({ frames := 15, cells := 0, slots := 0, locals := 370 })).room s m args below meth c (sf_Qi D vwCl q dA KX (sf_EX q tv ta tb) below args s r τ) 5 D vwCl q dA KX σ 27 [(0, .ref (q 0)), (1, .int u0), (2, .int u1), (3, .int u2)] []
      refine sf_iload_n (i := 3) (j := 3) X dX6_isomers_27 rfl rfl rfl ?_
      refine sf_iconst (v := 1) X dX6_isomers_28 sf_ic_1 rfl ?_
      refine sf_iload_n (i := 1) (j := 1) X dX6_isomers_29 rfl rfl rfl ?_
      refine sf_ishl X dX6_isomers_30 rfl ?_
      refine sf_icmp_ge (tgt := 101) X dX6_isomers_31 rfl rfl (fun c7 => ?_) (fun c7 => ?_)
      · have h := sf_ift c7 h
        refine sf_iload_n (i := 2) (j := 2) X dX6_isomers_101 rfl rfl rfl ?_
        exact sf_reti X h dX6_isomers_102
      · have h := sf_iff c7 h
        refine sf_aload_n (i := 0) (j := 0) X dX6_isomers_34 rfl rfl rfl ?_
        refine sf_getR (C := RX6) (T := TX6) (N := 11) (ci := 6) (j := 2) (k' := 22) X (fun w h => sf_memc (inX6 w h)) rfl rfl (by decide) (X.1.2.2.2.2 _ (sf_memc tw_226)) (fun _ h9 => h9) rfl dX6_isomers_35 rfl ?_
        refine sf_aload_n (i := 0) (j := 0) X dX6_isomers_38 rfl rfl rfl ?_
        refine sf_getR (C := RX6) (T := TX6) (N := 11) (ci := 6) (j := 1) (k' := 17) X (fun w h => sf_memc (inX6 w h)) rfl rfl (by decide) (X.1.2.2.2.2 _ (sf_memc tw_225)) (fun _ h9 => h9) rfl dX6_isomers_39 rfl ?_
        obtain ⟨τ9, hR8, h⟩ := h
        refine sf_callVv (As := [.ref (q 17)]) (rest := []) (cv := (RX4, TX4, 4)) X rfl rfl (c_X4_copyFrom hq hR8) (cwV 1 X.1.2.2.2.2 (sf_gV tw_502 tw_503 tw_504 tw_43 tw_505) rfl rfl rfl ⟨rfl, hd_X4_copyFrom⟩ ⟨Nat.le_of_ble_eq_true rfl, Nat.le_of_ble_eq_true rfl⟩) rfl rfl (Nat.le_of_ble_eq_true rfl) dX6_isomers_42 rfl ?_
        refine sf_aload_n (i := 0) (j := 0) X dX6_isomers_45 rfl rfl rfl ?_
        refine sf_getR (C := RX6) (T := TX6) (N := 11) (ci := 6) (j := 2) (k' := 22) X (fun w h => sf_memc (inX6 w h)) rfl rfl (by decide) (X.1.2.2.2.2 _ (sf_memc tw_226)) (fun _ h9 => h9) rfl dX6_isomers_46 rfl ?_
        refine sf_aload_n (i := 0) (j := 0) X dX6_isomers_49 rfl rfl rfl ?_
        refine sf_getR (C := RX6) (T := TX6) (N := 11) (ci := 6) (j := 0) (k' := 1) X (fun w h => sf_memc (inX6 w h)) rfl rfl (by decide) (X.1.2.2.2.2 _ (sf_memc tw_224)) (fun _ h9 => h9) rfl dX6_isomers_50 rfl ?_
        refine sf_iload_n (i := 3) (j := 3) X dX6_isomers_53 rfl rfl rfl ?_
        obtain ⟨τ11, hR10, h⟩ := h
        refine sf_callVv (As := [.ref (q 1), .int u2]) (rest := []) (cv := (RX4, TX4, 4)) X rfl rfl (c_X4_turnSome hq hR10) (cwV 2 X.1.2.2.2.2 (sf_gV tw_527 tw_528 tw_529 tw_43 tw_530) rfl rfl rfl ⟨rfl, hd_X4_turnSome⟩ ⟨Nat.le_of_ble_eq_true rfl, Nat.le_of_ble_eq_true rfl⟩) rfl rfl (Nat.le_of_ble_eq_true rfl) dX6_isomers_54 rfl ?_
        refine sf_aload_n (i := 0) (j := 0) X dX6_isomers_57 rfl rfl rfl ?_
        refine sf_getR (C := RX6) (T := TX6) (N := 11) (ci := 6) (j := 3) (k' := 27) X (fun w h => sf_memc (inX6 w h)) rfl rfl (by decide) (X.1.2.2.2.2 _ (sf_memc tw_227)) (fun _ h9 => h9) rfl dX6_isomers_58 rfl ?_
        refine sf_aload_n (i := 0) (j := 0) X dX6_isomers_61 rfl rfl rfl ?_
        refine sf_getR (C := RX6) (T := TX6) (N := 11) (ci := 6) (j := 0) (k' := 1) X (fun w h => sf_memc (inX6 w h)) rfl rfl (by decide) (X.1.2.2.2.2 _ (sf_memc tw_224)) (fun _ h9 => h9) rfl dX6_isomers_62 rfl ?_
        refine sf_aload_n (i := 0) (j := 0) X dX6_isomers_65 rfl rfl rfl ?_
        refine sf_getR (C := RX6) (T := TX6) (N := 11) (ci := 6) (j := 2) (k' := 22) X (fun w h => sf_memc (inX6 w h)) rfl rfl (by decide) (X.1.2.2.2.2 _ (sf_memc tw_226)) (fun _ h9 => h9) rfl dX6_isomers_66 rfl ?_
        obtain ⟨r14, τ13, hR12, h⟩ := h
        refine sf_callVi (As := [.ref (q 1), .ref (q 22)]) (rest := []) (cv := (RX3, TX3, 5)) X rfl rfl (c_X3_leastSenses_2 hq hR12) (cwV 2 X.1.2.2.2.2 (sf_gV tw_428 tw_429 tw_430 tw_44 tw_431) rfl rfl rfl ⟨rfl, hd_X3_leastSenses⟩ ⟨Nat.le_of_ble_eq_true rfl, Nat.le_of_ble_eq_true rfl⟩) rfl rfl (Nat.le_of_ble_eq_true rfl) dX6_isomers_69 rfl ?_
        refine sf_istore (i := 4) (lv' := [(4, .int r14), (0, .ref (q 0)), (1, .int u0), (2, .int u1), (3, .int u2)]) X dX6_isomers_72 (by decide) rfl rfl ?_
        refine sf_aload_n (i := 0) (j := 1) X dX6_isomers_74 rfl rfl rfl ?_
        refine sf_iload (i := 4) (j := 0) X dX6_isomers_75 rfl rfl ?_
        refine sf_iload_n (i := 2) (j := 3) X dX6_isomers_77 rfl rfl rfl ?_
        obtain ⟨r17, τ16, hR15, h⟩ := h
        refine sf_callVi (As := [.int r14, .int u1]) (rest := []) (cv := (RX6, TX6, 11)) X rfl rfl (c_X6_isFound hq hR15) (cwV 2 X.1.2.2.2.2 (sf_gV tw_531 tw_533 tw_10 tw_41 tw_534) rfl rfl rfl ⟨rfl, hd_X6_isFound⟩ ⟨Nat.le_of_ble_eq_true rfl, Nat.le_of_ble_eq_true rfl⟩) rfl rfl (Nat.le_of_ble_eq_true rfl) dX6_isomers_78 rfl ?_
        refine sf_if_ne (tgt := 95) X dX6_isomers_81 rfl rfl (fun c18 => ?_) (fun c18 => ?_)
        · have h := sf_iff c18 h
          refine sf_iinc (i := 3) (j := 4) (d := 1) (lv' := fun y19 => [(3, .int y19), (4, .int r14), (0, .ref (q 0)), (1, .int u0), (2, .int u1)]) X dX6_isomers_95 rfl sf_ic_1 (by decide) (fun _ => rfl) rfl (fun y19 hy19 => ?_)
          have h := h y19 hy19
          refine sf_goto (tgt := 27) X dX6_isomers_98 rfl ?_
          refine sf_loc (lv' := [(0, .ref (q 0)), (1, .int u0), (2, .int u1), (3, .int y19)]) [2, 3, 4, 0] rfl ?_
          exact h
        · have h := sf_ift c18 h
          refine sf_aload_n (i := 0) (j := 1) X dX6_isomers_84 rfl rfl rfl ?_
          refine sf_getR (C := RX6) (T := TX6) (N := 11) (ci := 6) (j := 8) (k' := 45) X (fun w h => sf_memc (inX6 w h)) rfl rfl (by decide) (X.1.2.2.2.2 _ (sf_memc tw_232)) (fun _ h9 => h9) rfl dX6_isomers_85 rfl ?_
          refine sf_iload_n (i := 2) (j := 3) X dX6_isomers_88 rfl rfl rfl ?_
          refine sf_iload (i := 4) (j := 0) X dX6_isomers_89 rfl rfl ?_
          obtain ⟨b20, h⟩ := h
          refine sf_iast X rfl b20 dX6_isomers_91 rfl (fun τ21 hτ21 => ?_)
          have h := h τ21 hτ21
          refine sf_iinc (i := 2) (j := 3) (d := 1) (lv' := fun y22 => [(2, .int y22), (4, .int r14), (0, .ref (q 0)), (1, .int u0), (3, .int u2)]) X dX6_isomers_92 rfl sf_ic_1 (by decide) (fun _ => rfl) rfl (fun y22 hy22 => ?_)
          have h := h y22 hy22
          refine sf_iinc (i := 3) (j := 4) (d := 1) (lv' := fun y23 => [(3, .int y23), (2, .int y22), (4, .int r14), (0, .ref (q 0)), (1, .int u0)]) X dX6_isomers_95 rfl sf_ic_1 (by decide) (fun _ => rfl) rfl (fun y23 hy23 => ?_)
          have h := h y23 hy23
          refine sf_goto (tgt := 27) X dX6_isomers_98 rfl ?_
          refine sf_loc (lv' := [(0, .ref (q 0)), (1, .int u0), (2, .int y22), (3, .int y23)]) [3, 4, 1, 0] rfl ?_
          exact h
  | (_ + 2), _ => exact trivial
set_option maxHeartbeats 4000000 in
set_option maxRecDepth 100000 in
theorem c_X1_take_2 {l : Launch} {D : va_G} {q : Nat → Nat} {dA : Nat → ClassId} {tv ta tb : Nat} (hq : sf_inj q KX) {σ τ : sf_St} {u0 u1 : Int32} (h : R_X1_take 38 39 37 σ u0 u1 τ) : sf_Mv l yX1_take wsX1_take ({ frames := 1, cells := 0, slots := 0, locals := 40 }) D vwCl q dA KX (sf_EX q tv ta tb) [.ref (q 38), .ref (q 37), .int u0, .int u1] σ τ := by
  refine sf_metv (cc := cX1_take) (maxL := 4) (ret := none) (own := RX1) (by decide +kernel) rfl rfl hq sf_EXk (Nat.le_of_ble_eq_true rfl) ?_
  intro p e s m args below meth c X
  have hT := X.2.2.2.1.2.1
  unfold R_X1_take at h
  refine sf_loc (lv' := [(0, .ref (q 38)), (1, .ref (q 37)), (2, .int u0), (3, .int u1)]) [0, 1, 2, 3] rfl ?_
  refine sf_aload_n (i := 1) (j := 1) X dX1_take_0 rfl rfl rfl ?_
  refine sf_iconst (v := 0) X dX1_take_1 sf_ic_0 rfl ?_
  refine sf_aload_n (i := 0) (j := 0) X dX1_take_2 rfl rfl rfl ?_
  refine sf_getR (C := RX1) (T := TX1) (N := 3) (ci := 1) (j := 1) (k' := 39) X (fun w h => sf_memc (inX1 w h)) rfl rfl (by decide) (X.1.2.2.2.2 _ (sf_memc tw_195)) (fun _ h9 => h9) rfl dX1_take_3 rfl ?_
  refine sf_iconst (v := 0) X dX1_take_6 sf_ic_0 rfl ?_
  refine sf_bipush (v := 7) X dX1_take_7 sf_bc_7 rfl ?_
  refine sf_copy (t := 0) (n0 := 7) (n1 := 7) (ty := .int) X (X.1.2.2.2.2 _ (sf_memc tw_500)) (X.1.2.2.2.2 _ (sf_memc tw_468)) (X.1.2.2.2.2 _ (sf_memc tw_467)) (X.1.2.2.2.2 _ (sf_memc tw_51)) rfl rfl (by decide) rfl rfl (by decide) (by decide) (by decide) (by decide) (by decide) (fun _ _ => rfl) (Nat.le_of_ble_eq_true rfl) (Nat.le_of_ble_eq_true rfl) dX1_take_9 rfl (fun τ1 hτ1 => ?_)
  have h := h τ1 hτ1
  refine sf_aload_n (i := 0) (j := 0) X dX1_take_12 rfl rfl rfl ?_
  refine sf_iload_n (i := 2) (j := 2) X dX1_take_13 rfl rfl rfl ?_
  refine sf_putI (C := RX1) (T := TX1) (N := 3) (ci := 1) (j := 0) (ty := .int) X (fun w h => sf_memc (inX1 w h)) rfl rfl (by decide) (X.1.2.2.2.2 _ (sf_memc tw_193)) (fun _ h9 => h9) tyX1 tyX1_ok nmX1 rfl (by decide +kernel) rfl rfl rfl dX1_take_14 rfl (fun τ2 hτ2 => ?_)
  have h := h τ2 hτ2
  refine sf_aload_n (i := 0) (j := 0) X dX1_take_17 rfl rfl rfl ?_
  refine sf_iload_n (i := 3) (j := 3) X dX1_take_18 rfl rfl rfl ?_
  refine sf_putI (C := RX1) (T := TX1) (N := 3) (ci := 1) (j := 2) (ty := .int) X (fun w h => sf_memc (inX1 w h)) rfl rfl (by decide) (X.1.2.2.2.2 _ (sf_memc tw_197)) (fun _ h9 => h9) tyX1 tyX1_ok nmX1 rfl (by decide +kernel) rfl rfl rfl dX1_take_19 rfl (fun τ3 hτ3 => ?_)
  have h := h τ3 hτ3
  exact sf_retv X h dX1_take_22
def R_X1_copyFrom (σ : sf_St) (τ : sf_St) : Prop :=
  ∃ τ2 : sf_St, R_X1_take 38 39 37 σ (σ 36 0) (σ 36 2) τ2 ∧ (τ = τ2)
set_option maxHeartbeats 4000000 in
set_option maxRecDepth 100000 in
theorem c_X1_copyFrom {l : Launch} {D : va_G} {q : Nat → Nat} {dA : Nat → ClassId} {tv ta tb : Nat} (hq : sf_inj q KX) {σ τ : sf_St} (h : R_X1_copyFrom σ  τ) : sf_Mv l yX1_copyFrom wsX1_copyFrom ({ frames := 2, cells := 0, slots := 0, locals := 63 }) D vwCl q dA KX (sf_EX q tv ta tb) [.ref (q 38), .ref (q 36)] σ τ := by
  refine sf_metv (cc := cX1_copyFrom) (maxL := 2) (ret := none) (own := RX1) (by decide +kernel) rfl rfl hq sf_EXk (Nat.le_of_ble_eq_true rfl) ?_
  intro p e s m args below meth c X
  have hT := X.2.2.2.1.2.1
  unfold R_X1_copyFrom at h
  refine sf_loc (lv' := [(0, .ref (q 38)), (1, .ref (q 36))]) [0, 1] rfl ?_
  refine sf_aload_n (i := 0) (j := 0) X dX1_copyFrom_0 rfl rfl rfl ?_
  refine sf_aload_n (i := 1) (j := 1) X dX1_copyFrom_1 rfl rfl rfl ?_
  refine sf_getR (C := RX1) (T := TX1) (N := 3) (ci := 1) (j := 1) (k' := 37) X (fun w h => sf_memc (inX1 w h)) rfl rfl (by decide) (X.1.2.2.2.2 _ (sf_memc tw_195)) (fun _ h9 => h9) rfl dX1_copyFrom_2 rfl ?_
  refine sf_aload_n (i := 1) (j := 1) X dX1_copyFrom_5 rfl rfl rfl ?_
  refine sf_getI (C := RX1) (T := TX1) (N := 3) (ci := 1) (j := 0) X (fun w h => sf_memc (inX1 w h)) rfl rfl (by decide) (X.1.2.2.2.2 _ (sf_memc tw_193)) (fun _ h9 => h9) rfl dX1_copyFrom_6 rfl ?_
  refine sf_aload_n (i := 1) (j := 1) X dX1_copyFrom_9 rfl rfl rfl ?_
  refine sf_getI (C := RX1) (T := TX1) (N := 3) (ci := 1) (j := 2) X (fun w h => sf_memc (inX1 w h)) rfl rfl (by decide) (X.1.2.2.2.2 _ (sf_memc tw_197)) (fun _ h9 => h9) rfl dX1_copyFrom_10 rfl ?_
  obtain ⟨τ2, hR1, h⟩ := h
  refine sf_callVv (As := [.ref (q 37), .int (σ 36 0), .int (σ 36 2)]) (rest := []) (cv := (RX1, TX1, 3)) X rfl rfl (c_X1_take_2 hq hR1) (cwV 3 X.1.2.2.2.2 (sf_gV tw_543 tw_497 tw_498 tw_46 tw_499) rfl rfl rfl ⟨rfl, hd_X1_take⟩ ⟨Nat.le_of_ble_eq_true rfl, Nat.le_of_ble_eq_true rfl⟩) rfl rfl (Nat.le_of_ble_eq_true rfl) dX1_copyFrom_13 rfl ?_
  exact sf_retv X h dX1_copyFrom_16
def R_X6_keep (σ : sf_St) (r : Int32) (τ : sf_St) : Prop :=
  ∃ τ2 : sf_St, R_X6_settle σ τ2 ∧ (∃ τ4 : sf_St, R_X1_copyFrom τ2 τ4 ∧ (r = (τ4 38 0) ∧ τ = τ4))
set_option maxHeartbeats 4000000 in
set_option maxRecDepth 100000 in
theorem c_X6_keep {l : Launch} {D : va_G} {q : Nat → Nat} {dA : Nat → ClassId} {tv ta tb : Nat} (hq : sf_inj q KX) {σ τ : sf_St} {r : Int32} (h : R_X6_keep σ  r τ) : sf_Mi l yX6_keep wsX6_keep ({ frames := 15, cells := 0, slots := 0, locals := 370 }) D vwCl q dA KX (sf_EX q tv ta tb) [.ref (q 0)] σ r τ := by
  refine sf_meti (cc := cX6_keep) (maxL := 1) (ret := (some .int)) (own := RX6) (by decide +kernel) rfl rfl hq sf_EXk (Nat.le_of_ble_eq_true rfl) ?_
  intro p e s m args below meth c X
  have hT := X.2.2.2.1.2.1
  unfold R_X6_keep at h
  refine sf_loc (lv' := [(0, .ref (q 0))]) [0] rfl ?_
  refine sf_aload_n (i := 0) (j := 0) X dX6_keep_0 rfl rfl rfl ?_
  obtain ⟨τ2, hR1, h⟩ := h
  refine sf_callVv (As := []) (rest := []) (cv := (RX6, TX6, 11)) X rfl rfl (c_X6_settle hq hR1) (cwV 0 X.1.2.2.2.2 (sf_gV tw_411 tw_413 tw_3 tw_41 tw_414) rfl rfl rfl ⟨rfl, hd_X6_settle⟩ ⟨Nat.le_of_ble_eq_true rfl, Nat.le_of_ble_eq_true rfl⟩) rfl rfl (Nat.le_of_ble_eq_true rfl) dX6_keep_1 rfl ?_
  refine sf_aload_n (i := 0) (j := 0) X dX6_keep_4 rfl rfl rfl ?_
  refine sf_getR (C := RX6) (T := TX6) (N := 11) (ci := 6) (j := 5) (k' := 38) X (fun w h => sf_memc (inX6 w h)) rfl rfl (by decide) (X.1.2.2.2.2 _ (sf_memc tw_229)) (fun _ h9 => h9) rfl dX6_keep_5 rfl ?_
  refine sf_aload_n (i := 0) (j := 0) X dX6_keep_8 rfl rfl rfl ?_
  refine sf_getR (C := RX6) (T := TX6) (N := 11) (ci := 6) (j := 4) (k' := 36) X (fun w h => sf_memc (inX6 w h)) rfl rfl (by decide) (X.1.2.2.2.2 _ (sf_memc tw_228)) (fun _ h9 => h9) rfl dX6_keep_9 rfl ?_
  obtain ⟨τ4, hR3, h⟩ := h
  refine sf_callVv (As := [.ref (q 36)]) (rest := []) (cv := (RX1, TX1, 3)) X rfl rfl (c_X1_copyFrom hq hR3) (cwV 1 X.1.2.2.2.2 (sf_gV tw_539 tw_540 tw_541 tw_46 tw_542) rfl rfl rfl ⟨rfl, hd_X1_copyFrom⟩ ⟨Nat.le_of_ble_eq_true rfl, Nat.le_of_ble_eq_true rfl⟩) rfl rfl (Nat.le_of_ble_eq_true rfl) dX6_keep_12 rfl ?_
  refine sf_aload_n (i := 0) (j := 0) X dX6_keep_15 rfl rfl rfl ?_
  refine sf_getR (C := RX6) (T := TX6) (N := 11) (ci := 6) (j := 5) (k' := 38) X (fun w h => sf_memc (inX6 w h)) rfl rfl (by decide) (X.1.2.2.2.2 _ (sf_memc tw_229)) (fun _ h9 => h9) rfl dX6_keep_16 rfl ?_
  refine sf_getI (C := RX1) (T := TX1) (N := 3) (ci := 1) (j := 0) X (fun w h => sf_memc (inX1 w h)) rfl rfl (by decide) (X.1.2.2.2.2 _ (sf_memc tw_194)) (fun _ h9 => h9) rfl dX6_keep_19 rfl ?_
  exact sf_reti X h dX6_keep_22
def tr_R_X1_hasRowsOf_0 (Pr : Nat → sf_St → Int32 → Prop) (r : Int32) (τ : sf_St) (σ : sf_St) (u0 : Int32) : Prop :=
  if (σ 36 0) = (σ 38 0) then (Pr 1 σ (0 : Int32)) else (r = (0 : Int32) ∧ τ = σ)
def tr_R_X1_hasRowsOf_1 (Pr : Nat → sf_St → Int32 → Prop) (r : Int32) (τ : sf_St) (σ : sf_St) (u0 : Int32) : Prop :=
  if (σ 36 0) ≤ u0 then (r = (1 : Int32) ∧ τ = σ) else (vp_in u0 7 ∧ (vp_in u0 7 ∧ (if (σ 37 (sf_ix u0)) = (σ 39 (sf_ix u0)) then (∀ y6 : Int32, y6 = u0 + (1 : Int32) → (Pr 1 σ y6)) else (r = (0 : Int32) ∧ τ = σ))))
def fn_R_X1_hasRowsOf (Pr : Nat → sf_St → Int32 → Prop) (r : Int32) (τ : sf_St) (t : Nat) (σ : sf_St) (u0 : Int32) : Prop := match t with
  | 0 => tr_R_X1_hasRowsOf_0 Pr r τ σ u0
  | 1 => tr_R_X1_hasRowsOf_1 Pr r τ σ u0
  | _ => False
def Rn_R_X1_hasRowsOf (t : Nat) (σ : sf_St) (u0 : Int32) (r : Int32) (τ : sf_St) : Prop := ∀ Pr : Nat → sf_St → Int32 → Prop, (∀ (t : Nat) (σ : sf_St) (u0 : Int32), fn_R_X1_hasRowsOf Pr r τ t σ u0 → Pr t σ u0) → Pr t σ u0
def R_X1_hasRowsOf (σ : sf_St) (r : Int32) (τ : sf_St) : Prop := Rn_R_X1_hasRowsOf 0 σ  0 r τ
theorem fe_R_X1_hasRowsOf_0 {Pr : Nat → sf_St → Int32 → Prop} {r : Int32} {τ σ : sf_St} {u0 : Int32} (h : fn_R_X1_hasRowsOf Pr r τ 0 σ u0) : tr_R_X1_hasRowsOf_0 Pr r τ σ u0 := h
theorem mo_R_X1_hasRowsOf_0 {Pr Pr' : Nat → sf_St → Int32 → Prop} {r : Int32} {τ σ : sf_St} {u0 : Int32} (hP : ∀ (t : Nat) (σ : sf_St) (u0 : Int32), Pr t σ u0 → Pr' t σ u0) (h : tr_R_X1_hasRowsOf_0 Pr r τ σ u0) : tr_R_X1_hasRowsOf_0 Pr' r τ σ u0 := by
  unfold tr_R_X1_hasRowsOf_0 at h ⊢
  refine sf_mif (fun h => ?_) (fun h => ?_) h
  · exact hP _ _ _ h
  · exact h
theorem ru_R_X1_hasRowsOf_0 {r : Int32} {τ σ : sf_St} {u0 : Int32} (h : tr_R_X1_hasRowsOf_0 (fun t σ u0 => Rn_R_X1_hasRowsOf t σ u0 r τ) r τ σ u0) : Rn_R_X1_hasRowsOf 0 σ u0 r τ := fun Pr hP => hP 0 σ u0 (mo_R_X1_hasRowsOf_0 (fun _ _ _ h => h Pr hP) h)
theorem fe_R_X1_hasRowsOf_1 {Pr : Nat → sf_St → Int32 → Prop} {r : Int32} {τ σ : sf_St} {u0 : Int32} (h : fn_R_X1_hasRowsOf Pr r τ 1 σ u0) : tr_R_X1_hasRowsOf_1 Pr r τ σ u0 := h
theorem mo_R_X1_hasRowsOf_1 {Pr Pr' : Nat → sf_St → Int32 → Prop} {r : Int32} {τ σ : sf_St} {u0 : Int32} (hP : ∀ (t : Nat) (σ : sf_St) (u0 : Int32), Pr t σ u0 → Pr' t σ u0) (h : tr_R_X1_hasRowsOf_1 Pr r τ σ u0) : tr_R_X1_hasRowsOf_1 Pr' r τ σ u0 := by
  unfold tr_R_X1_hasRowsOf_1 at h ⊢
  refine sf_mif (fun h => ?_) (fun h => ?_) h
  · exact h
  · refine And.imp id (fun h => ?_) h
    refine And.imp id (fun h => ?_) h
    refine sf_mif (fun h => ?_) (fun h => ?_) h
    · intro y6 hy6
      have h := h y6 hy6
      exact hP _ _ _ h
    · exact h
theorem ru_R_X1_hasRowsOf_1 {r : Int32} {τ σ : sf_St} {u0 : Int32} (h : tr_R_X1_hasRowsOf_1 (fun t σ u0 => Rn_R_X1_hasRowsOf t σ u0 r τ) r τ σ u0) : Rn_R_X1_hasRowsOf 1 σ u0 r τ := fun Pr hP => hP 1 σ u0 (mo_R_X1_hasRowsOf_1 (fun _ _ _ h => h Pr hP) h)
set_option maxHeartbeats 4000000 in
set_option maxRecDepth 100000 in
theorem c_X1_hasRowsOf {l : Launch} {D : va_G} {q : Nat → Nat} {dA : Nat → ClassId} {tv ta tb : Nat} (hq : sf_inj q KX) {σ τ : sf_St} {r : Int32} (h : R_X1_hasRowsOf σ  r τ) : sf_Mi l yX1_hasRowsOf wsX1_hasRowsOf ({ frames := 0, cells := 0, slots := 0, locals := 0 }) D vwCl q dA KX (sf_EX q tv ta tb) [.ref (q 36), .ref (q 38)] σ r τ := by
  refine sf_meti (cc := cX1_hasRowsOf) (maxL := 3) (ret := (some .boolean)) (own := RX1) (by decide +kernel) rfl rfl hq sf_EXk (Nat.le_of_ble_eq_true rfl) ?_
  intro p e s m args below meth c X
  have hT := X.2.2.2.1.2.1
  refine sf_loc (lv' := [(0, .ref (q 36)), (1, .ref (q 38))]) [0, 1] rfl ?_
  refine h (fun t σ u0 => match t with
    | 0 => sf_G p l e (headSpec wsX1_hasRowsOf ({ frames := 0, cells := 0, slots := 0, locals := 0 })).room s m args below meth c (sf_Qi D vwCl q dA KX (sf_EX q tv ta tb) below args s r τ) 3 D vwCl q dA KX σ 0 [(0, .ref (q 36)), (1, .ref (q 38))] []
    | 1 => sf_G p l e (headSpec wsX1_hasRowsOf ({ frames := 0, cells := 0, slots := 0, locals := 0 })).room s m args below meth c (sf_Qi D vwCl q dA KX (sf_EX q tv ta tb) below args s r τ) 3 D vwCl q dA KX σ 15 [(0, .ref (q 36)), (1, .ref (q 38)), (2, .int u0)] []
    | _ => True) ?_
  intro t σ u0 h
  match t, h with
  | 0, h =>
      replace h := fe_R_X1_hasRowsOf_0 h
      unfold tr_R_X1_hasRowsOf_0 at h
      show sf_G p l e (headSpec wsX1_hasRowsOf ({ frames := 0, cells := 0, slots := 0, locals := 0 })).room s m args below meth c (sf_Qi D vwCl q dA KX (sf_EX q tv ta tb) below args s r τ) 3 D vwCl q dA KX σ 0 [(0, .ref (q 36)), (1, .ref (q 38))] []
      refine sf_aload_n (i := 0) (j := 0) X dX1_hasRowsOf_0 rfl rfl rfl ?_
      refine sf_getI (C := RX1) (T := TX1) (N := 3) (ci := 1) (j := 0) X (fun w h => sf_memc (inX1 w h)) rfl rfl (by decide) (X.1.2.2.2.2 _ (sf_memc tw_193)) (fun _ h9 => h9) rfl dX1_hasRowsOf_1 rfl ?_
      refine sf_aload_n (i := 1) (j := 1) X dX1_hasRowsOf_4 rfl rfl rfl ?_
      refine sf_getI (C := RX1) (T := TX1) (N := 3) (ci := 1) (j := 0) X (fun w h => sf_memc (inX1 w h)) rfl rfl (by decide) (X.1.2.2.2.2 _ (sf_memc tw_193)) (fun _ h9 => h9) rfl dX1_hasRowsOf_5 rfl ?_
      refine sf_icmp_eq (tgt := 13) X dX1_hasRowsOf_8 rfl rfl (fun c1 => ?_) (fun c1 => ?_)
      · have h := sf_ift c1 h
        refine sf_iconst (v := 0) X dX1_hasRowsOf_13 sf_ic_0 rfl ?_
        refine sf_istore_n (i := 2) (lv' := [(2, .int (0 : Int32)), (0, .ref (q 36)), (1, .ref (q 38))]) X dX1_hasRowsOf_14 rfl (by decide) rfl rfl ?_
        refine sf_loc (lv' := [(0, .ref (q 36)), (1, .ref (q 38)), (2, .int (0 : Int32))]) [1, 2, 0] rfl ?_
        exact h
      · have h := sf_iff c1 h
        refine sf_iconst (v := 0) X dX1_hasRowsOf_11 sf_ic_0 rfl ?_
        exact sf_retz X h rfl dX1_hasRowsOf_12
  | 1, h =>
      replace h := fe_R_X1_hasRowsOf_1 h
      unfold tr_R_X1_hasRowsOf_1 at h
      show sf_G p l e (headSpec wsX1_hasRowsOf ({ frames := 0, cells := 0, slots := 0, locals := 0 })).room s m args below meth c (sf_Qi D vwCl q dA KX (sf_EX q tv ta tb) below args s r τ) 3 D vwCl q dA KX σ 15 [(0, .ref (q 36)), (1, .ref (q 38)), (2, .int u0)] []
      refine sf_iload_n (i := 2) (j := 2) X dX1_hasRowsOf_15 rfl rfl rfl ?_
      refine sf_aload_n (i := 0) (j := 0) X dX1_hasRowsOf_16 rfl rfl rfl ?_
      refine sf_getI (C := RX1) (T := TX1) (N := 3) (ci := 1) (j := 0) X (fun w h => sf_memc (inX1 w h)) rfl rfl (by decide) (X.1.2.2.2.2 _ (sf_memc tw_193)) (fun _ h9 => h9) rfl dX1_hasRowsOf_17 rfl ?_
      refine sf_icmp_ge (tgt := 46) X dX1_hasRowsOf_20 rfl rfl (fun c2 => ?_) (fun c2 => ?_)
      · have h := sf_ift c2 h
        refine sf_iconst (v := 1) X dX1_hasRowsOf_46 sf_ic_1 rfl ?_
        exact sf_retz X h rfl dX1_hasRowsOf_47
      · have h := sf_iff c2 h
        refine sf_aload_n (i := 0) (j := 0) X dX1_hasRowsOf_23 rfl rfl rfl ?_
        refine sf_getR (C := RX1) (T := TX1) (N := 3) (ci := 1) (j := 1) (k' := 37) X (fun w h => sf_memc (inX1 w h)) rfl rfl (by decide) (X.1.2.2.2.2 _ (sf_memc tw_195)) (fun _ h9 => h9) rfl dX1_hasRowsOf_24 rfl ?_
        refine sf_iload_n (i := 2) (j := 2) X dX1_hasRowsOf_27 rfl rfl rfl ?_
        obtain ⟨b3, h⟩ := h
        refine sf_iald X rfl b3 dX1_hasRowsOf_28 rfl ?_
        refine sf_aload_n (i := 1) (j := 1) X dX1_hasRowsOf_29 rfl rfl rfl ?_
        refine sf_getR (C := RX1) (T := TX1) (N := 3) (ci := 1) (j := 1) (k' := 39) X (fun w h => sf_memc (inX1 w h)) rfl rfl (by decide) (X.1.2.2.2.2 _ (sf_memc tw_195)) (fun _ h9 => h9) rfl dX1_hasRowsOf_30 rfl ?_
        refine sf_iload_n (i := 2) (j := 2) X dX1_hasRowsOf_33 rfl rfl rfl ?_
        obtain ⟨b4, h⟩ := h
        refine sf_iald X rfl b4 dX1_hasRowsOf_34 rfl ?_
        refine sf_icmp_eq (tgt := 40) X dX1_hasRowsOf_35 rfl rfl (fun c5 => ?_) (fun c5 => ?_)
        · have h := sf_ift c5 h
          refine sf_iinc (i := 2) (j := 2) (d := 1) (lv' := fun y6 => [(2, .int y6), (0, .ref (q 36)), (1, .ref (q 38))]) X dX1_hasRowsOf_40 rfl sf_ic_1 (by decide) (fun _ => rfl) rfl (fun y6 hy6 => ?_)
          have h := h y6 hy6
          refine sf_goto (tgt := 15) X dX1_hasRowsOf_43 rfl ?_
          refine sf_loc (lv' := [(0, .ref (q 36)), (1, .ref (q 38)), (2, .int y6)]) [1, 2, 0] rfl ?_
          exact h
        · have h := sf_iff c5 h
          refine sf_iconst (v := 0) X dX1_hasRowsOf_38 sf_ic_0 rfl ?_
          exact sf_retz X h rfl dX1_hasRowsOf_39
  | (_ + 2), _ => exact trivial
