def R_X6_compare (σ : sf_St) (r : Int32) (τ : sf_St) : Prop :=
  ∃ τ2 : sf_St, R_X6_settle σ τ2 ∧ (∃ (r5 : Int32) (τ4 : sf_St), R_X1_hasRowsOf τ2 r5 τ4 ∧ (if r5 = (0 : Int32) then (r = (3 : Int32) ∧ τ = τ4) else (if (τ4 36 2) = (τ4 38 2) then (r = (0 : Int32) ∧ τ = τ4) else (if (τ4 0 9) = (τ4 38 2) then (r = (2 : Int32) ∧ τ = τ4) else (r = (1 : Int32) ∧ τ = τ4)))))
set_option maxHeartbeats 4000000 in
set_option maxRecDepth 100000 in
theorem c_X6_compare {l : Launch} {D : va_G} {q : Nat → Nat} {dA : Nat → ClassId} {tv ta tb : Nat} (hq : sf_inj q KX) {σ τ : sf_St} {r : Int32} (h : R_X6_compare σ  r τ) : sf_Mi l yX6_compare wsX6_compare ({ frames := 15, cells := 0, slots := 0, locals := 370 }) D vwCl q dA KX (sf_EX q tv ta tb) [.ref (q 0)] σ r τ := by
  refine sf_meti (cc := cX6_compare) (maxL := 1) (ret := (some .int)) (own := RX6) (by decide +kernel) rfl rfl hq sf_EXk (Nat.le_of_ble_eq_true rfl) ?_
  intro p e s m args below meth c X
  have hT := X.2.2.2.1.2.1
  unfold R_X6_compare at h
  refine sf_loc (lv' := [(0, .ref (q 0))]) [0] rfl ?_
  refine sf_aload_n (i := 0) (j := 0) X dX6_compare_0 rfl rfl rfl ?_
  obtain ⟨τ2, hR1, h⟩ := h
  refine sf_callVv (As := []) (rest := []) (cv := (RX6, TX6, 11)) X rfl rfl (c_X6_settle hq hR1) (cwV 0 X.1.2.2.2.2 (sf_gV tw_411 tw_413 tw_3 tw_41 tw_414) rfl rfl rfl ⟨rfl, hd_X6_settle⟩ ⟨Nat.le_of_ble_eq_true rfl, Nat.le_of_ble_eq_true rfl⟩) rfl rfl (Nat.le_of_ble_eq_true rfl) dX6_compare_1 rfl ?_
  refine sf_aload_n (i := 0) (j := 0) X dX6_compare_4 rfl rfl rfl ?_
  refine sf_getR (C := RX6) (T := TX6) (N := 11) (ci := 6) (j := 4) (k' := 36) X (fun w h => sf_memc (inX6 w h)) rfl rfl (by decide) (X.1.2.2.2.2 _ (sf_memc tw_228)) (fun _ h9 => h9) rfl dX6_compare_5 rfl ?_
  refine sf_aload_n (i := 0) (j := 0) X dX6_compare_8 rfl rfl rfl ?_
  refine sf_getR (C := RX6) (T := TX6) (N := 11) (ci := 6) (j := 5) (k' := 38) X (fun w h => sf_memc (inX6 w h)) rfl rfl (by decide) (X.1.2.2.2.2 _ (sf_memc tw_229)) (fun _ h9 => h9) rfl dX6_compare_9 rfl ?_
  obtain ⟨r5, τ4, hR3, h⟩ := h
  refine sf_callVi (As := [.ref (q 38)]) (rest := []) (cv := (RX1, TX1, 3)) X rfl rfl (c_X1_hasRowsOf hq hR3) (cwV 1 X.1.2.2.2.2 (sf_gV tw_548 tw_549 tw_550 tw_46 tw_551) rfl rfl rfl ⟨rfl, hd_X1_hasRowsOf⟩ ⟨Nat.le_of_ble_eq_true rfl, Nat.le_of_ble_eq_true rfl⟩) rfl rfl (Nat.le_of_ble_eq_true rfl) dX6_compare_12 rfl ?_
  refine sf_if_ne (tgt := 20) X dX6_compare_15 rfl rfl (fun c6 => ?_) (fun c6 => ?_)
  · have h := sf_iff c6 h
    refine sf_aload_n (i := 0) (j := 0) X dX6_compare_20 rfl rfl rfl ?_
    refine sf_getR (C := RX6) (T := TX6) (N := 11) (ci := 6) (j := 4) (k' := 36) X (fun w h => sf_memc (inX6 w h)) rfl rfl (by decide) (X.1.2.2.2.2 _ (sf_memc tw_228)) (fun _ h9 => h9) rfl dX6_compare_21 rfl ?_
    refine sf_getI (C := RX1) (T := TX1) (N := 3) (ci := 1) (j := 2) X (fun w h => sf_memc (inX1 w h)) rfl rfl (by decide) (X.1.2.2.2.2 _ (sf_memc tw_198)) (fun _ h9 => h9) rfl dX6_compare_24 rfl ?_
    refine sf_aload_n (i := 0) (j := 0) X dX6_compare_27 rfl rfl rfl ?_
    refine sf_getR (C := RX6) (T := TX6) (N := 11) (ci := 6) (j := 5) (k' := 38) X (fun w h => sf_memc (inX6 w h)) rfl rfl (by decide) (X.1.2.2.2.2 _ (sf_memc tw_229)) (fun _ h9 => h9) rfl dX6_compare_28 rfl ?_
    refine sf_getI (C := RX1) (T := TX1) (N := 3) (ci := 1) (j := 2) X (fun w h => sf_memc (inX1 w h)) rfl rfl (by decide) (X.1.2.2.2.2 _ (sf_memc tw_198)) (fun _ h9 => h9) rfl dX6_compare_31 rfl ?_
    refine sf_icmp_ne (tgt := 39) X dX6_compare_34 rfl rfl (fun c7 => ?_) (fun c7 => ?_)
    · have h := sf_iff c7 h
      refine sf_aload_n (i := 0) (j := 0) X dX6_compare_39 rfl rfl rfl ?_
      refine sf_getI (C := RX6) (T := TX6) (N := 11) (ci := 6) (j := 9) X (fun w h => sf_memc (inX6 w h)) rfl rfl (by decide) (X.1.2.2.2.2 _ (sf_memc tw_233)) (fun _ h9 => h9) rfl dX6_compare_40 rfl ?_
      refine sf_aload_n (i := 0) (j := 0) X dX6_compare_43 rfl rfl rfl ?_
      refine sf_getR (C := RX6) (T := TX6) (N := 11) (ci := 6) (j := 5) (k' := 38) X (fun w h => sf_memc (inX6 w h)) rfl rfl (by decide) (X.1.2.2.2.2 _ (sf_memc tw_229)) (fun _ h9 => h9) rfl dX6_compare_44 rfl ?_
      refine sf_getI (C := RX1) (T := TX1) (N := 3) (ci := 1) (j := 2) X (fun w h => sf_memc (inX1 w h)) rfl rfl (by decide) (X.1.2.2.2.2 _ (sf_memc tw_198)) (fun _ h9 => h9) rfl dX6_compare_47 rfl ?_
      refine sf_icmp_ne (tgt := 57) X dX6_compare_50 rfl rfl (fun c8 => ?_) (fun c8 => ?_)
      · have h := sf_iff c8 h
        refine sf_iconst (v := 1) X dX6_compare_57 sf_ic_1 rfl ?_
        exact sf_reti X h dX6_compare_58
      · have h := sf_ift c8 h
        refine sf_iconst (v := 2) X dX6_compare_53 sf_ic_2 rfl ?_
        refine sf_goto (tgt := 58) X dX6_compare_54 rfl ?_
        exact sf_reti X h dX6_compare_58
    · have h := sf_ift c7 h
      refine sf_iconst (v := 0) X dX6_compare_37 sf_ic_0 rfl ?_
      exact sf_reti X h dX6_compare_38
  · have h := sf_ift c6 h
    refine sf_iconst (v := 3) X dX6_compare_18 sf_ic_3 rfl ?_
    exact sf_reti X h dX6_compare_19
def R_X5_add (σ : sf_St) (u0 : Int32) (τ : sf_St) : Prop :=
  if (80 : Int32) ≤ (σ 43 1) then (τ = σ) else (vp_in (σ 43 1) 80 ∧ (∀ τ3 : sf_St, τ3 = sf_up σ 44 (sf_ix (σ 43 1)) (vp_nar .char u0) → (∀ τ4 : sf_St, τ4 = sf_up τ3 43 1 ((τ3 43 1) + (1 : Int32)) → (τ = τ4))))
set_option maxHeartbeats 4000000 in
set_option maxRecDepth 100000 in
theorem c_X5_add {l : Launch} {D : va_G} {q : Nat → Nat} {dA : Nat → ClassId} {tv ta tb : Nat} (hq : sf_inj q KX) {σ τ : sf_St} {u0 : Int32} (h : R_X5_add σ u0 τ) : sf_Mv l yX5_add wsX5_add ({ frames := 0, cells := 0, slots := 0, locals := 0 }) D vwCl q dA KX (sf_EX q tv ta tb) [.ref (q 43), .int u0] σ τ := by
  refine sf_metv (cc := cX5_add) (maxL := 2) (ret := none) (own := RX5) (by decide +kernel) rfl rfl hq sf_EXk (Nat.le_of_ble_eq_true rfl) ?_
  intro p e s m args below meth c X
  have hT := X.2.2.2.1.2.1
  unfold R_X5_add at h
  refine sf_loc (lv' := [(0, .ref (q 43)), (1, .int u0)]) [0, 1] rfl ?_
  refine sf_aload_n (i := 0) (j := 0) X dX5_add_0 rfl rfl rfl ?_
  refine sf_getI (C := RX5) (T := TX5) (N := 2) (ci := 5) (j := 1) X (fun w h => sf_memc (inX5 w h)) rfl rfl (by decide) (X.1.2.2.2.2 _ (sf_memc tw_216)) (fun _ h9 => h9) rfl dX5_add_1 rfl ?_
  refine sf_aload_n (i := 0) (j := 0) X dX5_add_4 rfl rfl rfl ?_
  refine sf_getR (C := RX5) (T := TX5) (N := 2) (ci := 5) (j := 0) (k' := 44) X (fun w h => sf_memc (inX5 w h)) rfl rfl (by decide) (X.1.2.2.2.2 _ (sf_memc tw_214)) (fun _ h9 => h9) rfl dX5_add_5 rfl ?_
  refine sf_alen (t := 2) (ty := .char) (v := 80) X rfl (by decide) rfl (by decide) dX5_add_8 rfl ?_
  refine sf_icmp_ge (tgt := 32) X dX5_add_9 rfl rfl (fun c1 => ?_) (fun c1 => ?_)
  · have h := sf_ift c1 h
    exact sf_retv X h dX5_add_32
  · have h := sf_iff c1 h
    refine sf_aload_n (i := 0) (j := 0) X dX5_add_12 rfl rfl rfl ?_
    refine sf_getR (C := RX5) (T := TX5) (N := 2) (ci := 5) (j := 0) (k' := 44) X (fun w h => sf_memc (inX5 w h)) rfl rfl (by decide) (X.1.2.2.2.2 _ (sf_memc tw_214)) (fun _ h9 => h9) rfl dX5_add_13 rfl ?_
    refine sf_aload_n (i := 0) (j := 0) X dX5_add_16 rfl rfl rfl ?_
    refine sf_getI (C := RX5) (T := TX5) (N := 2) (ci := 5) (j := 1) X (fun w h => sf_memc (inX5 w h)) rfl rfl (by decide) (X.1.2.2.2.2 _ (sf_memc tw_216)) (fun _ h9 => h9) rfl dX5_add_17 rfl ?_
    refine sf_iload_n (i := 1) (j := 1) X dX5_add_20 rfl rfl rfl ?_
    obtain ⟨b2, h⟩ := h
    refine sf_cast X rfl b2 dX5_add_21 rfl (fun τ3 hτ3 => ?_)
    have h := h τ3 hτ3
    refine sf_aload_n (i := 0) (j := 0) X dX5_add_22 rfl rfl rfl ?_
    refine sf_dup X dX5_add_23 rfl rfl ?_
    refine sf_getI (C := RX5) (T := TX5) (N := 2) (ci := 5) (j := 1) X (fun w h => sf_memc (inX5 w h)) rfl rfl (by decide) (X.1.2.2.2.2 _ (sf_memc tw_216)) (fun _ h9 => h9) rfl dX5_add_24 rfl ?_
    refine sf_iconst (v := 1) X dX5_add_27 sf_ic_1 rfl ?_
    refine sf_iadd X dX5_add_28 rfl ?_
    refine sf_putI (C := RX5) (T := TX5) (N := 2) (ci := 5) (j := 1) (ty := .int) X (fun w h => sf_memc (inX5 w h)) rfl rfl (by decide) (X.1.2.2.2.2 _ (sf_memc tw_216)) (fun _ h9 => h9) tyX5 tyX5_ok nmX5 rfl (by decide +kernel) rfl rfl rfl dX5_add_29 rfl (fun τ4 hτ4 => ?_)
    have h := h τ4 hτ4
    exact sf_retv X h dX5_add_32
def R_X5_addElement (σ : sf_St) (u0 : Int32) (τ : sf_St) : Prop :=
  ∃ (r3 : Int32) (τ2 : sf_St), R_charAt σ u0 r3 τ2 ∧ (∃ τ5 : sf_St, R_X5_add τ2 r3 τ5 ∧ (if u0 = (4 : Int32) then (∃ τ8 : sf_St, R_X5_add τ5 (108 : Int32) τ8 ∧ (τ = τ8)) else (τ = τ5)))
set_option maxHeartbeats 4000000 in
set_option maxRecDepth 100000 in
theorem c_X5_addElement {l : Launch} {D : va_G} {q : Nat → Nat} {dA : Nat → ClassId} {tv ta tb : Nat} (hq : sf_inj q KX) {σ τ : sf_St} {u0 : Int32} (h : R_X5_addElement σ u0 τ) : sf_Mv l yX5_addElement wsX5_addElement ({ frames := 4, cells := 0, slots := 0, locals := 91 }) D vwCl q dA KX (sf_EX q tv ta tb) [.ref (q 43), .int u0] σ τ := by
  refine sf_metv (cc := cX5_addElement) (maxL := 2) (ret := none) (own := RX5) (by decide +kernel) rfl rfl hq sf_EXk (Nat.le_of_ble_eq_true rfl) ?_
  intro p e s m args below meth c X
  have hT := X.2.2.2.1.2.1
  unfold R_X5_addElement at h
  refine sf_loc (lv' := [(0, .ref (q 43)), (1, .int u0)]) [0, 1] rfl ?_
  refine sf_aload_n (i := 0) (j := 0) X dX5_addElement_0 rfl rfl rfl ?_
  refine sf_ldcS X X.2.2.2.1.2.2.2.1 dX5_addElement_1 rfl ?_
  refine sf_iload_n (i := 1) (j := 1) X dX5_addElement_3 rfl rfl rfl ?_
  obtain ⟨r3, τ2, hR1, h⟩ := h
  refine sf_callStr (As := [.int u0]) (rest := [.ref (q 43)]) X X.2.2.2.1.2.2.2.2.1 (c_charAt hq hR1) (cwV 1 X.1.2.2.2.2 (sf_gV tw_565 tw_566 tw_567 tw_52 tw_568) rfl rfl rfl ⟨rfl, hd_J0_charAt⟩ ⟨Nat.le_of_ble_eq_true rfl, Nat.le_of_ble_eq_true rfl⟩) rfl rfl (Nat.le_of_ble_eq_true rfl) dX5_addElement_4 rfl ?_
  obtain ⟨τ5, hR4, h⟩ := h
  refine sf_callVv (As := [.int r3]) (rest := []) (cv := (RX5, TX5, 2)) X rfl rfl (c_X5_add hq hR4) (cwV 1 X.1.2.2.2.2 (sf_gV tw_605 tw_607 tw_12 tw_47 tw_608) rfl rfl rfl ⟨rfl, hd_X5_add⟩ ⟨Nat.le_of_ble_eq_true rfl, Nat.le_of_ble_eq_true rfl⟩) rfl rfl (Nat.le_of_ble_eq_true rfl) dX5_addElement_7 rfl ?_
  refine sf_iload_n (i := 1) (j := 1) X dX5_addElement_10 rfl rfl rfl ?_
  refine sf_iconst (v := 4) X dX5_addElement_11 sf_ic_4 rfl ?_
  refine sf_icmp_ne (tgt := 21) X dX5_addElement_12 rfl rfl (fun c6 => ?_) (fun c6 => ?_)
  · have h := sf_iff c6 h
    exact sf_retv X h dX5_addElement_21
  · have h := sf_ift c6 h
    refine sf_aload_n (i := 0) (j := 0) X dX5_addElement_15 rfl rfl rfl ?_
    refine sf_bipush (v := 108) X dX5_addElement_16 sf_bc_108 rfl ?_
    obtain ⟨τ8, hR7, h⟩ := h
    refine sf_callVv (As := [.int (108 : Int32)]) (rest := []) (cv := (RX5, TX5, 2)) X rfl rfl (c_X5_add hq hR7) (cwV 1 X.1.2.2.2.2 (sf_gV tw_605 tw_607 tw_12 tw_47 tw_608) rfl rfl rfl ⟨rfl, hd_X5_add⟩ ⟨Nat.le_of_ble_eq_true rfl, Nat.le_of_ble_eq_true rfl⟩) rfl rfl (Nat.le_of_ble_eq_true rfl) dX5_addElement_18 rfl ?_
    exact sf_retv X h dX5_addElement_21
set_option maxHeartbeats 4000000 in
set_option maxRecDepth 100000 in
theorem c_X2_orderSign_2 {l : Launch} {D : va_G} {q : Nat → Nat} {dA : Nat → ClassId} {tv ta tb : Nat} (hq : sf_inj q KX) {σ τ : sf_St} {u0 u1 : Int32} {r : Int32} (h : R_X2_orderSign 41 42 σ u0 u1 r τ) : sf_Mi l yX2_orderSign wsX2_orderSign ({ frames := 0, cells := 0, slots := 0, locals := 0 }) D vwCl q dA KX (sf_EX q tv ta tb) [.ref (q 40), .ref (q 1), .int u0, .int u1] σ r τ := by
  refine sf_meti (cc := cX2_orderSign) (maxL := 8) (ret := (some .int)) (own := RX2) (by decide +kernel) rfl rfl hq sf_EXk (Nat.le_of_ble_eq_true rfl) ?_
  intro p e s m args below meth c X
  have hT := X.2.2.2.1.2.1
  refine sf_loc (lv' := [(0, .ref (q 40)), (1, .ref (q 1)), (2, .int u0), (3, .int u1)]) [0, 1, 2, 3] rfl ?_
  refine h (fun t σ u0 u1 u2 u3 u4 => match t with
    | 0 => sf_G p l e (headSpec wsX2_orderSign ({ frames := 0, cells := 0, slots := 0, locals := 0 })).room s m args below meth c (sf_Qi D vwCl q dA KX (sf_EX q tv ta tb) below args s r τ) 8 D vwCl q dA KX σ 0 [(0, .ref (q 40)), (1, .ref (q 1)), (2, .int u0), (3, .int u1)] []
    | 1 => sf_G p l e (headSpec wsX2_orderSign ({ frames := 0, cells := 0, slots := 0, locals := 0 })).room s m args below meth c (sf_Qi D vwCl q dA KX (sf_EX q tv ta tb) below args s r τ) 8 D vwCl q dA KX σ 14 [(0, .ref (q 40)), (1, .ref (q 1)), (2, .int u0), (3, .int u1), (4, .ref (q (10 + sf_ix u0))), (5, .int u2), (6, .int u3)] []
    | 2 => sf_G p l e (headSpec wsX2_orderSign ({ frames := 0, cells := 0, slots := 0, locals := 0 })).room s m args below meth c (sf_Qi D vwCl q dA KX (sf_EX q tv ta tb) below args s r τ) 8 D vwCl q dA KX σ 43 [(0, .ref (q 40)), (1, .ref (q 1)), (2, .int u0), (3, .int u1), (4, .ref (q (10 + sf_ix u0))), (5, .int u2), (6, .int u3), (7, .int u4)] []
    | _ => True) ?_
  intro t σ u0 u1 u2 u3 u4 h
  match t, h with
  | 0, h =>
      replace h := fe_R_X2_orderSign_0 h
      unfold tr_R_X2_orderSign_0 at h
      show sf_G p l e (headSpec wsX2_orderSign ({ frames := 0, cells := 0, slots := 0, locals := 0 })).room s m args below meth c (sf_Qi D vwCl q dA KX (sf_EX q tv ta tb) below args s r τ) 8 D vwCl q dA KX σ 0 [(0, .ref (q 40)), (1, .ref (q 1)), (2, .int u0), (3, .int u1)] []
      refine sf_aload_n (i := 1) (j := 1) X dX2_orderSign_0 rfl rfl rfl ?_
      refine sf_getR (C := RX0) (T := TX0) (N := 10) (ci := 0) (j := 9) (k' := 9) X (fun w h => sf_memc (inX0 w h)) rfl rfl (by decide) (X.1.2.2.2.2 _ (sf_memc tw_100)) (fun _ h9 => h9) rfl dX2_orderSign_1 rfl ?_
      refine sf_iload_n (i := 2) (j := 2) X dX2_orderSign_4 rfl rfl rfl ?_
      obtain ⟨b1, h⟩ := h
      refine sf_aald (k' := (10 + sf_ix u0)) X rfl b1 (sf_lkR b1) dX2_orderSign_5 rfl ?_
      refine sf_astore (i := 4) (lv' := [(4, .ref (q (10 + sf_ix u0))), (0, .ref (q 40)), (1, .ref (q 1)), (2, .int u0), (3, .int u1)]) X dX2_orderSign_6 (by decide) rfl rfl ?_
      refine sf_iconst (v := 1) X dX2_orderSign_8 sf_ic_1 rfl ?_
      refine sf_istore (i := 5) (lv' := [(5, .int (1 : Int32)), (4, .ref (q (10 + sf_ix u0))), (0, .ref (q 40)), (1, .ref (q 1)), (2, .int u0), (3, .int u1)]) X dX2_orderSign_9 (by decide) rfl rfl ?_
      refine sf_iconst (v := 0) X dX2_orderSign_11 sf_ic_0 rfl ?_
      refine sf_istore (i := 6) (lv' := [(6, .int (0 : Int32)), (5, .int (1 : Int32)), (4, .ref (q (10 + sf_ix u0))), (0, .ref (q 40)), (1, .ref (q 1)), (2, .int u0), (3, .int u1)]) X dX2_orderSign_12 (by decide) rfl rfl ?_
      refine sf_loc (lv' := [(0, .ref (q 40)), (1, .ref (q 1)), (2, .int u0), (3, .int u1), (4, .ref (q (10 + sf_ix u0))), (5, .int (1 : Int32)), (6, .int (0 : Int32))]) [3, 4, 5, 6, 2, 1, 0] rfl ?_
      exact h
  | 1, h =>
      replace h := fe_R_X2_orderSign_1 h
      unfold tr_R_X2_orderSign_1 at h
      show sf_G p l e (headSpec wsX2_orderSign ({ frames := 0, cells := 0, slots := 0, locals := 0 })).room s m args below meth c (sf_Qi D vwCl q dA KX (sf_EX q tv ta tb) below args s r τ) 8 D vwCl q dA KX σ 14 [(0, .ref (q 40)), (1, .ref (q 1)), (2, .int u0), (3, .int u1), (4, .ref (q (10 + sf_ix u0))), (5, .int u2), (6, .int u3)] []
      obtain ⟨b2, h⟩ := h
      refine sf_iload (i := 6) (j := 6) X dX2_orderSign_14 rfl rfl ?_
      refine sf_aload_n (i := 1) (j := 1) X dX2_orderSign_16 rfl rfl rfl ?_
      refine sf_getI (C := RX0) (T := TX0) (N := 10) (ci := 0) (j := 3) X (fun w h => sf_memc (inX0 w h)) rfl rfl (by decide) (X.1.2.2.2.2 _ (sf_memc tw_86)) (fun _ h9 => h9) rfl dX2_orderSign_17 rfl ?_
      refine sf_icmp_ge (tgt := 98) X dX2_orderSign_20 rfl rfl (fun c3 => ?_) (fun c3 => ?_)
      · have h := sf_ift c3 h
        refine sf_iload (i := 5) (j := 5) X dX2_orderSign_98 rfl rfl ?_
        exact sf_reti X h dX2_orderSign_100
      · have h := sf_iff c3 h
        refine sf_iload (i := 6) (j := 6) X dX2_orderSign_23 rfl rfl ?_
        refine sf_iload_n (i := 3) (j := 3) X dX2_orderSign_25 rfl rfl rfl ?_
        refine sf_icmp_eq (tgt := 92) X dX2_orderSign_26 rfl rfl (fun c4 => ?_) (fun c4 => ?_)
        · have h := sf_ift c4 h
          refine sf_iinc (i := 6) (j := 6) (d := 1) (lv' := fun y5 => [(6, .int y5), (0, .ref (q 40)), (1, .ref (q 1)), (2, .int u0), (3, .int u1), (4, .ref (q (10 + sf_ix u0))), (5, .int u2)]) X dX2_orderSign_92 rfl sf_ic_1 (by decide) (fun _ => rfl) rfl (fun y5 hy5 => ?_)
          have h := h y5 hy5
          refine sf_goto (tgt := 14) X dX2_orderSign_95 rfl ?_
          refine sf_loc (lv' := [(0, .ref (q 40)), (1, .ref (q 1)), (2, .int u0), (3, .int u1), (4, .ref (q (10 + sf_ix u0))), (5, .int u2), (6, .int y5)]) [1, 2, 3, 4, 5, 6, 0] rfl ?_
          exact h
        · have h := sf_iff c4 h
          refine sf_aload (i := 4) (j := 4) X dX2_orderSign_29 rfl rfl ?_
          refine sf_iload (i := 6) (j := 6) X dX2_orderSign_31 rfl rfl ?_
          obtain ⟨b6, h⟩ := h
          refine sf_iald X (sf_lkK b2) b6 dX2_orderSign_33 rfl ?_
          refine sf_if_ne (tgt := 40) X dX2_orderSign_34 rfl rfl (fun c7 => ?_) (fun c7 => ?_)
          · have h := sf_iff c7 h
            refine sf_iconst (v := 0) X dX2_orderSign_40 sf_ic_0 rfl ?_
            refine sf_istore (i := 7) (lv' := [(7, .int (0 : Int32)), (0, .ref (q 40)), (1, .ref (q 1)), (2, .int u0), (3, .int u1), (4, .ref (q (10 + sf_ix u0))), (5, .int u2), (6, .int u3)]) X dX2_orderSign_41 (by decide) rfl rfl ?_
            refine sf_loc (lv' := [(0, .ref (q 40)), (1, .ref (q 1)), (2, .int u0), (3, .int u1), (4, .ref (q (10 + sf_ix u0))), (5, .int u2), (6, .int u3), (7, .int (0 : Int32))]) [1, 2, 3, 4, 5, 6, 7, 0] rfl ?_
            exact h
          · have h := sf_ift c7 h
            refine sf_goto (tgt := 92) X dX2_orderSign_37 rfl ?_
            refine sf_iinc (i := 6) (j := 6) (d := 1) (lv' := fun y8 => [(6, .int y8), (0, .ref (q 40)), (1, .ref (q 1)), (2, .int u0), (3, .int u1), (4, .ref (q (10 + sf_ix u0))), (5, .int u2)]) X dX2_orderSign_92 rfl sf_ic_1 (by decide) (fun _ => rfl) rfl (fun y8 hy8 => ?_)
            have h := h y8 hy8
            refine sf_goto (tgt := 14) X dX2_orderSign_95 rfl ?_
            refine sf_loc (lv' := [(0, .ref (q 40)), (1, .ref (q 1)), (2, .int u0), (3, .int u1), (4, .ref (q (10 + sf_ix u0))), (5, .int u2), (6, .int y8)]) [1, 2, 3, 4, 5, 6, 0] rfl ?_
            exact h
  | 2, h =>
      replace h := fe_R_X2_orderSign_2 h
      unfold tr_R_X2_orderSign_2 at h
      show sf_G p l e (headSpec wsX2_orderSign ({ frames := 0, cells := 0, slots := 0, locals := 0 })).room s m args below meth c (sf_Qi D vwCl q dA KX (sf_EX q tv ta tb) below args s r τ) 8 D vwCl q dA KX σ 43 [(0, .ref (q 40)), (1, .ref (q 1)), (2, .int u0), (3, .int u1), (4, .ref (q (10 + sf_ix u0))), (5, .int u2), (6, .int u3), (7, .int u4)] []
      obtain ⟨b9, h⟩ := h
      refine sf_iload (i := 7) (j := 7) X dX2_orderSign_43 rfl rfl ?_
      refine sf_iload (i := 6) (j := 6) X dX2_orderSign_45 rfl rfl ?_
      refine sf_icmp_ge (tgt := 92) X dX2_orderSign_47 rfl rfl (fun c10 => ?_) (fun c10 => ?_)
      · have h := sf_ift c10 h
        refine sf_iinc (i := 6) (j := 6) (d := 1) (lv' := fun y11 => [(6, .int y11), (0, .ref (q 40)), (1, .ref (q 1)), (2, .int u0), (3, .int u1), (4, .ref (q (10 + sf_ix u0))), (5, .int u2), (7, .int u4)]) X dX2_orderSign_92 rfl sf_ic_1 (by decide) (fun _ => rfl) rfl (fun y11 hy11 => ?_)
        have h := h y11 hy11
        refine sf_goto (tgt := 14) X dX2_orderSign_95 rfl ?_
        refine sf_loc (lv' := [(0, .ref (q 40)), (1, .ref (q 1)), (2, .int u0), (3, .int u1), (4, .ref (q (10 + sf_ix u0))), (5, .int u2), (6, .int y11)]) [1, 2, 3, 4, 5, 6, 0] rfl ?_
        exact h
      · have h := sf_iff c10 h
        refine sf_iload (i := 7) (j := 7) X dX2_orderSign_50 rfl rfl ?_
        refine sf_iload_n (i := 3) (j := 3) X dX2_orderSign_52 rfl rfl rfl ?_
        refine sf_icmp_eq (tgt := 86) X dX2_orderSign_53 rfl rfl (fun c12 => ?_) (fun c12 => ?_)
        · have h := sf_ift c12 h
          refine sf_iinc (i := 7) (j := 7) (d := 1) (lv' := fun y13 => [(7, .int y13), (0, .ref (q 40)), (1, .ref (q 1)), (2, .int u0), (3, .int u1), (4, .ref (q (10 + sf_ix u0))), (5, .int u2), (6, .int u3)]) X dX2_orderSign_86 rfl sf_ic_1 (by decide) (fun _ => rfl) rfl (fun y13 hy13 => ?_)
          have h := h y13 hy13
          refine sf_goto (tgt := 43) X dX2_orderSign_89 rfl ?_
          refine sf_loc (lv' := [(0, .ref (q 40)), (1, .ref (q 1)), (2, .int u0), (3, .int u1), (4, .ref (q (10 + sf_ix u0))), (5, .int u2), (6, .int u3), (7, .int y13)]) [1, 2, 3, 4, 5, 6, 7, 0] rfl ?_
          exact h
        · have h := sf_iff c12 h
          refine sf_aload (i := 4) (j := 4) X dX2_orderSign_56 rfl rfl ?_
          refine sf_iload (i := 7) (j := 7) X dX2_orderSign_58 rfl rfl ?_
          obtain ⟨b14, h⟩ := h
          refine sf_iald X (sf_lkK b9) b14 dX2_orderSign_60 rfl ?_
          refine sf_if_eq (tgt := 86) X dX2_orderSign_61 rfl rfl (fun c15 => ?_) (fun c15 => ?_)
          · have h := sf_ift c15 h
            refine sf_iinc (i := 7) (j := 7) (d := 1) (lv' := fun y16 => [(7, .int y16), (0, .ref (q 40)), (1, .ref (q 1)), (2, .int u0), (3, .int u1), (4, .ref (q (10 + sf_ix u0))), (5, .int u2), (6, .int u3)]) X dX2_orderSign_86 rfl sf_ic_1 (by decide) (fun _ => rfl) rfl (fun y16 hy16 => ?_)
            have h := h y16 hy16
            refine sf_goto (tgt := 43) X dX2_orderSign_89 rfl ?_
            refine sf_loc (lv' := [(0, .ref (q 40)), (1, .ref (q 1)), (2, .int u0), (3, .int u1), (4, .ref (q (10 + sf_ix u0))), (5, .int u2), (6, .int u3), (7, .int y16)]) [1, 2, 3, 4, 5, 6, 7, 0] rfl ?_
            exact h
          · have h := sf_iff c15 h
            refine sf_aload_n (i := 0) (j := 0) X dX2_orderSign_64 rfl rfl rfl ?_
            refine sf_getR (C := RX2) (T := TX2) (N := 2) (ci := 2) (j := 1) (k' := 42) X (fun w h => sf_memc (inX2 w h)) rfl rfl (by decide) (X.1.2.2.2.2 _ (sf_memc tw_161)) (fun _ h9 => h9) rfl dX2_orderSign_65 rfl ?_
            refine sf_iload (i := 7) (j := 7) X dX2_orderSign_68 rfl rfl ?_
            obtain ⟨b17, h⟩ := h
            refine sf_iald X rfl b17 dX2_orderSign_70 rfl ?_
            refine sf_aload_n (i := 0) (j := 0) X dX2_orderSign_71 rfl rfl rfl ?_
            refine sf_getR (C := RX2) (T := TX2) (N := 2) (ci := 2) (j := 1) (k' := 42) X (fun w h => sf_memc (inX2 w h)) rfl rfl (by decide) (X.1.2.2.2.2 _ (sf_memc tw_161)) (fun _ h9 => h9) rfl dX2_orderSign_72 rfl ?_
            refine sf_iload (i := 6) (j := 6) X dX2_orderSign_75 rfl rfl ?_
            obtain ⟨b18, h⟩ := h
            refine sf_iald X rfl b18 dX2_orderSign_77 rfl ?_
            refine sf_icmp_le (tgt := 86) X dX2_orderSign_78 rfl rfl (fun c19 => ?_) (fun c19 => ?_)
            · have h := sf_ift c19 h
              refine sf_iinc (i := 7) (j := 7) (d := 1) (lv' := fun y20 => [(7, .int y20), (0, .ref (q 40)), (1, .ref (q 1)), (2, .int u0), (3, .int u1), (4, .ref (q (10 + sf_ix u0))), (5, .int u2), (6, .int u3)]) X dX2_orderSign_86 rfl sf_ic_1 (by decide) (fun _ => rfl) rfl (fun y20 hy20 => ?_)
              have h := h y20 hy20
              refine sf_goto (tgt := 43) X dX2_orderSign_89 rfl ?_
              refine sf_loc (lv' := [(0, .ref (q 40)), (1, .ref (q 1)), (2, .int u0), (3, .int u1), (4, .ref (q (10 + sf_ix u0))), (5, .int u2), (6, .int u3), (7, .int y20)]) [1, 2, 3, 4, 5, 6, 7, 0] rfl ?_
              exact h
            · have h := sf_iff c19 h
              refine sf_iload (i := 5) (j := 5) X dX2_orderSign_81 rfl rfl ?_
              refine sf_ineg X dX2_orderSign_83 rfl ?_
              refine sf_top (fun y21 hy21 => ?_)
              have h := h y21 hy21
              refine sf_istore (i := 5) (lv' := [(5, .int y21), (0, .ref (q 40)), (1, .ref (q 1)), (2, .int u0), (3, .int u1), (4, .ref (q (10 + sf_ix u0))), (6, .int u3), (7, .int u4)]) X dX2_orderSign_84 (by decide) rfl rfl ?_
              refine sf_iinc (i := 7) (j := 7) (d := 1) (lv' := fun y22 => [(7, .int y22), (5, .int y21), (0, .ref (q 40)), (1, .ref (q 1)), (2, .int u0), (3, .int u1), (4, .ref (q (10 + sf_ix u0))), (6, .int u3)]) X dX2_orderSign_86 rfl sf_ic_1 (by decide) (fun _ => rfl) rfl (fun y22 hy22 => ?_)
              have h := h y22 hy22
              refine sf_goto (tgt := 43) X dX2_orderSign_89 rfl ?_
              refine sf_loc (lv' := [(0, .ref (q 40)), (1, .ref (q 1)), (2, .int u0), (3, .int u1), (4, .ref (q (10 + sf_ix u0))), (5, .int y21), (6, .int u3), (7, .int y22)]) [2, 3, 4, 5, 6, 1, 7, 0] rfl ?_
              exact h
  | (_ + 3), _ => exact trivial
set_option maxHeartbeats 4000000 in
set_option maxRecDepth 100000 in
theorem c_X2_senseOfAtom_3 {l : Launch} {D : va_G} {q : Nat → Nat} {dA : Nat → ClassId} {tv ta tb : Nat} (hq : sf_inj q KX) {σ τ : sf_St} {u0 : Int32} {r : Int32} (h : R_X2_senseOfAtom 41 42 18 19 20 21 σ u0 r τ) : sf_Mi l yX2_senseOfAtom wsX2_senseOfAtom ({ frames := 1, cells := 0, slots := 0, locals := 27 }) D vwCl q dA KX (sf_EX q tv ta tb) [.ref (q 40), .ref (q 1), .ref (q 17), .int u0] σ r τ := by
  refine sf_meti (cc := cX2_senseOfAtom) (maxL := 5) (ret := (some .int)) (own := RX2) (by decide +kernel) rfl rfl hq sf_EXk (Nat.le_of_ble_eq_true rfl) ?_
  intro p e s m args below meth c X
  have hT := X.2.2.2.1.2.1
  unfold R_X2_senseOfAtom at h
  refine sf_loc (lv' := [(0, .ref (q 40)), (1, .ref (q 1)), (2, .ref (q 17)), (3, .int u0)]) [0, 1, 2, 3] rfl ?_
  refine sf_aload_n (i := 2) (j := 2) X dX2_senseOfAtom_0 rfl rfl rfl ?_
  refine sf_getR (C := RX4) (T := TX4) (N := 4) (ci := 4) (j := 0) (k' := 18) X (fun w h => sf_memc (inX4 w h)) rfl rfl (by decide) (X.1.2.2.2.2 _ (sf_memc tw_130)) (fun _ h9 => h9) rfl dX2_senseOfAtom_1 rfl ?_
  refine sf_iload_n (i := 3) (j := 3) X dX2_senseOfAtom_4 rfl rfl rfl ?_
  obtain ⟨b1, h⟩ := h
  refine sf_iald X rfl b1 dX2_senseOfAtom_5 rfl ?_
  refine sf_top (fun y2 hy2 => ?_)
  have h := h y2 hy2
  refine sf_istore (i := 4) (lv' := [(4, .int y2), (0, .ref (q 40)), (1, .ref (q 1)), (2, .ref (q 17)), (3, .int u0)]) X dX2_senseOfAtom_6 (by decide) rfl rfl ?_
  refine sf_iload (i := 4) (j := 0) X dX2_senseOfAtom_8 rfl rfl ?_
  refine sf_if_ne (tgt := 17) X dX2_senseOfAtom_10 rfl rfl (fun c3 => ?_) (fun c3 => ?_)
  · have h := sf_iff c3 h
    refine sf_iload (i := 4) (j := 0) X dX2_senseOfAtom_17 rfl rfl ?_
    refine sf_aload_n (i := 0) (j := 1) X dX2_senseOfAtom_19 rfl rfl rfl ?_
    refine sf_aload_n (i := 1) (j := 2) X dX2_senseOfAtom_20 rfl rfl rfl ?_
    refine sf_iload_n (i := 3) (j := 4) X dX2_senseOfAtom_21 rfl rfl rfl ?_
    refine sf_iconst (v := (-1)) X dX2_senseOfAtom_22 sf_ic_m1 rfl ?_
    obtain ⟨r6, τ5, hR4, h⟩ := h
    refine sf_callVi (As := [.ref (q 1), .int u0, .int (-1 : Int32)]) (rest := [.int y2]) (cv := (RX2, TX2, 2)) X rfl rfl (c_X2_orderSign_2 hq hR4) (cwV 3 X.1.2.2.2.2 (sf_gV tw_453 tw_455 tw_6 tw_45 tw_456) rfl rfl rfl ⟨rfl, hd_X2_orderSign⟩ ⟨Nat.le_of_ble_eq_true rfl, Nat.le_of_ble_eq_true rfl⟩) rfl rfl (Nat.le_of_ble_eq_true rfl) dX2_senseOfAtom_23 rfl ?_
    refine sf_imul X dX2_senseOfAtom_26 rfl ?_
    exact sf_reti X h dX2_senseOfAtom_27
  · have h := sf_ift c3 h
    refine sf_iconst (v := 0) X dX2_senseOfAtom_13 sf_ic_0 rfl ?_
    refine sf_goto (tgt := 27) X dX2_senseOfAtom_14 rfl ?_
    exact sf_reti X h dX2_senseOfAtom_27
def R_X5_addSense (σ : sf_St) (u0 : Int32) (τ : sf_St) : Prop :=
  if u0 = (0 : Int32) then (if u0 ≤ (0 : Int32) then (τ = σ) else (∃ τ4 : sf_St, R_X5_add σ (64 : Int32) τ4 ∧ (τ = τ4))) else (∃ τ6 : sf_St, R_X5_add σ (64 : Int32) τ6 ∧ (if u0 ≤ (0 : Int32) then (τ = τ6) else (∃ τ9 : sf_St, R_X5_add τ6 (64 : Int32) τ9 ∧ (τ = τ9))))
set_option maxHeartbeats 4000000 in
set_option maxRecDepth 100000 in
theorem c_X5_addSense {l : Launch} {D : va_G} {q : Nat → Nat} {dA : Nat → ClassId} {tv ta tb : Nat} (hq : sf_inj q KX) {σ τ : sf_St} {u0 : Int32} (h : R_X5_addSense σ u0 τ) : sf_Mv l yX5_addSense wsX5_addSense ({ frames := 1, cells := 0, slots := 0, locals := 21 }) D vwCl q dA KX (sf_EX q tv ta tb) [.ref (q 43), .int u0] σ τ := by
  refine sf_metv (cc := cX5_addSense) (maxL := 2) (ret := none) (own := RX5) (by decide +kernel) rfl rfl hq sf_EXk (Nat.le_of_ble_eq_true rfl) ?_
  intro p e s m args below meth c X
  have hT := X.2.2.2.1.2.1
  unfold R_X5_addSense at h
  refine sf_loc (lv' := [(0, .ref (q 43)), (1, .int u0)]) [0, 1] rfl ?_
  refine sf_iload_n (i := 1) (j := 1) X dX5_addSense_0 rfl rfl rfl ?_
  refine sf_if_eq (tgt := 10) X dX5_addSense_1 rfl rfl (fun c1 => ?_) (fun c1 => ?_)
  · have h := sf_ift c1 h
    refine sf_iload_n (i := 1) (j := 1) X dX5_addSense_10 rfl rfl rfl ?_
    refine sf_if_le (tgt := 20) X dX5_addSense_11 rfl rfl (fun c2 => ?_) (fun c2 => ?_)
    · have h := sf_ift c2 h
      exact sf_retv X h dX5_addSense_20
    · have h := sf_iff c2 h
      refine sf_aload_n (i := 0) (j := 0) X dX5_addSense_14 rfl rfl rfl ?_
      refine sf_bipush (v := 64) X dX5_addSense_15 sf_bc_64 rfl ?_
      obtain ⟨τ4, hR3, h⟩ := h
      refine sf_callVv (As := [.int (64 : Int32)]) (rest := []) (cv := (RX5, TX5, 2)) X rfl rfl (c_X5_add hq hR3) (cwV 1 X.1.2.2.2.2 (sf_gV tw_605 tw_607 tw_12 tw_47 tw_608) rfl rfl rfl ⟨rfl, hd_X5_add⟩ ⟨Nat.le_of_ble_eq_true rfl, Nat.le_of_ble_eq_true rfl⟩) rfl rfl (Nat.le_of_ble_eq_true rfl) dX5_addSense_17 rfl ?_
      exact sf_retv X h dX5_addSense_20
  · have h := sf_iff c1 h
    refine sf_aload_n (i := 0) (j := 0) X dX5_addSense_4 rfl rfl rfl ?_
    refine sf_bipush (v := 64) X dX5_addSense_5 sf_bc_64 rfl ?_
    obtain ⟨τ6, hR5, h⟩ := h
    refine sf_callVv (As := [.int (64 : Int32)]) (rest := []) (cv := (RX5, TX5, 2)) X rfl rfl (c_X5_add hq hR5) (cwV 1 X.1.2.2.2.2 (sf_gV tw_605 tw_607 tw_12 tw_47 tw_608) rfl rfl rfl ⟨rfl, hd_X5_add⟩ ⟨Nat.le_of_ble_eq_true rfl, Nat.le_of_ble_eq_true rfl⟩) rfl rfl (Nat.le_of_ble_eq_true rfl) dX5_addSense_7 rfl ?_
    refine sf_iload_n (i := 1) (j := 1) X dX5_addSense_10 rfl rfl rfl ?_
    refine sf_if_le (tgt := 20) X dX5_addSense_11 rfl rfl (fun c7 => ?_) (fun c7 => ?_)
    · have h := sf_ift c7 h
      exact sf_retv X h dX5_addSense_20
    · have h := sf_iff c7 h
      refine sf_aload_n (i := 0) (j := 0) X dX5_addSense_14 rfl rfl rfl ?_
      refine sf_bipush (v := 64) X dX5_addSense_15 sf_bc_64 rfl ?_
      obtain ⟨τ9, hR8, h⟩ := h
      refine sf_callVv (As := [.int (64 : Int32)]) (rest := []) (cv := (RX5, TX5, 2)) X rfl rfl (c_X5_add hq hR8) (cwV 1 X.1.2.2.2.2 (sf_gV tw_605 tw_607 tw_12 tw_47 tw_608) rfl rfl rfl ⟨rfl, hd_X5_add⟩ ⟨Nat.le_of_ble_eq_true rfl, Nat.le_of_ble_eq_true rfl⟩) rfl rfl (Nat.le_of_ble_eq_true rfl) dX5_addSense_17 rfl ?_
      exact sf_retv X h dX5_addSense_20
set_option maxHeartbeats 4000000 in
set_option maxRecDepth 100000 in
theorem c_X2_senseOfBond_3 {l : Launch} {D : va_G} {q : Nat → Nat} {dA : Nat → ClassId} {tv ta tb : Nat} (hq : sf_inj q KX) {σ τ : sf_St} {u0 : Int32} {r : Int32} (h : R_X2_senseOfBond 41 42 18 19 20 21 σ u0 r τ) : sf_Mi l yX2_senseOfBond wsX2_senseOfBond ({ frames := 1, cells := 0, slots := 0, locals := 27 }) D vwCl q dA KX (sf_EX q tv ta tb) [.ref (q 40), .ref (q 1), .ref (q 17), .int u0] σ r τ := by
  refine sf_meti (cc := cX2_senseOfBond) (maxL := 7) (ret := (some .int)) (own := RX2) (by decide +kernel) rfl rfl hq sf_EXk (Nat.le_of_ble_eq_true rfl) ?_
  intro p e s m args below meth c X
  have hT := X.2.2.2.1.2.1
  unfold R_X2_senseOfBond at h
  refine sf_loc (lv' := [(0, .ref (q 40)), (1, .ref (q 1)), (2, .ref (q 17)), (3, .int u0)]) [0, 1, 2, 3] rfl ?_
  refine sf_aload_n (i := 2) (j := 2) X dX2_senseOfBond_0 rfl rfl rfl ?_
  refine sf_getR (C := RX4) (T := TX4) (N := 4) (ci := 4) (j := 1) (k' := 19) X (fun w h => sf_memc (inX4 w h)) rfl rfl (by decide) (X.1.2.2.2.2 _ (sf_memc tw_132)) (fun _ h9 => h9) rfl dX2_senseOfBond_1 rfl ?_
  refine sf_iload_n (i := 3) (j := 3) X dX2_senseOfBond_4 rfl rfl rfl ?_
  obtain ⟨b1, h⟩ := h
  refine sf_iald X rfl b1 dX2_senseOfBond_5 rfl ?_
  refine sf_top (fun y2 hy2 => ?_)
  have h := h y2 hy2
  refine sf_istore (i := 4) (lv' := [(4, .int y2), (0, .ref (q 40)), (1, .ref (q 1)), (2, .ref (q 17)), (3, .int u0)]) X dX2_senseOfBond_6 (by decide) rfl rfl ?_
  refine sf_iload (i := 4) (j := 0) X dX2_senseOfBond_8 rfl rfl ?_
  refine sf_if_ne (tgt := 15) X dX2_senseOfBond_10 rfl rfl (fun c3 => ?_) (fun c3 => ?_)
  · have h := sf_iff c3 h
    refine sf_aload_n (i := 1) (j := 2) X dX2_senseOfBond_15 rfl rfl rfl ?_
    refine sf_getR (C := RX0) (T := TX0) (N := 10) (ci := 0) (j := 4) (k' := 5) X (fun w h => sf_memc (inX0 w h)) rfl rfl (by decide) (X.1.2.2.2.2 _ (sf_memc tw_88)) (fun _ h9 => h9) rfl dX2_senseOfBond_16 rfl ?_
    refine sf_iload_n (i := 3) (j := 4) X dX2_senseOfBond_19 rfl rfl rfl ?_
    obtain ⟨b4, h⟩ := h
    refine sf_iald X rfl b4 dX2_senseOfBond_20 rfl ?_
    refine sf_top (fun y5 hy5 => ?_)
    have h := h y5 hy5
    refine sf_istore (i := 5) (lv' := [(5, .int y5), (4, .int y2), (0, .ref (q 40)), (1, .ref (q 1)), (2, .ref (q 17)), (3, .int u0)]) X dX2_senseOfBond_21 (by decide) rfl rfl ?_
    refine sf_aload_n (i := 1) (j := 3) X dX2_senseOfBond_23 rfl rfl rfl ?_
    refine sf_getR (C := RX0) (T := TX0) (N := 10) (ci := 0) (j := 5) (k' := 6) X (fun w h => sf_memc (inX0 w h)) rfl rfl (by decide) (X.1.2.2.2.2 _ (sf_memc tw_91)) (fun _ h9 => h9) rfl dX2_senseOfBond_24 rfl ?_
    refine sf_iload_n (i := 3) (j := 5) X dX2_senseOfBond_27 rfl rfl rfl ?_
    obtain ⟨b6, h⟩ := h
    refine sf_iald X rfl b6 dX2_senseOfBond_28 rfl ?_
    refine sf_top (fun y7 hy7 => ?_)
    have h := h y7 hy7
    refine sf_istore (i := 6) (lv' := [(6, .int y7), (5, .int y5), (4, .int y2), (0, .ref (q 40)), (1, .ref (q 1)), (2, .ref (q 17)), (3, .int u0)]) X dX2_senseOfBond_29 (by decide) rfl rfl ?_
    refine sf_iload (i := 4) (j := 2) X dX2_senseOfBond_31 rfl rfl ?_
    refine sf_aload_n (i := 0) (j := 3) X dX2_senseOfBond_33 rfl rfl rfl ?_
    refine sf_aload_n (i := 1) (j := 4) X dX2_senseOfBond_34 rfl rfl rfl ?_
    refine sf_iload (i := 5) (j := 1) X dX2_senseOfBond_35 rfl rfl ?_
    refine sf_iload (i := 6) (j := 0) X dX2_senseOfBond_37 rfl rfl ?_
    obtain ⟨r10, τ9, hR8, h⟩ := h
    refine sf_callVi (As := [.ref (q 1), .int y5, .int y7]) (rest := [.int y2]) (cv := (RX2, TX2, 2)) X rfl rfl (c_X2_orderSign_2 hq hR8) (cwV 3 X.1.2.2.2.2 (sf_gV tw_453 tw_455 tw_6 tw_45 tw_456) rfl rfl rfl ⟨rfl, hd_X2_orderSign⟩ ⟨Nat.le_of_ble_eq_true rfl, Nat.le_of_ble_eq_true rfl⟩) rfl rfl (Nat.le_of_ble_eq_true rfl) dX2_senseOfBond_39 rfl ?_
    refine sf_imul X dX2_senseOfBond_42 rfl ?_
    refine sf_aload_n (i := 0) (j := 3) X dX2_senseOfBond_43 rfl rfl rfl ?_
    refine sf_aload_n (i := 1) (j := 4) X dX2_senseOfBond_44 rfl rfl rfl ?_
    refine sf_iload (i := 6) (j := 0) X dX2_senseOfBond_45 rfl rfl ?_
    refine sf_iload (i := 5) (j := 1) X dX2_senseOfBond_47 rfl rfl ?_
    obtain ⟨r13, τ12, hR11, h⟩ := h
    refine sf_callVi (As := [.ref (q 1), .int y7, .int y5]) (rest := [.int (y2 * r10)]) (cv := (RX2, TX2, 2)) X rfl rfl (c_X2_orderSign_2 hq hR11) (cwV 3 X.1.2.2.2.2 (sf_gV tw_453 tw_455 tw_6 tw_45 tw_456) rfl rfl rfl ⟨rfl, hd_X2_orderSign⟩ ⟨Nat.le_of_ble_eq_true rfl, Nat.le_of_ble_eq_true rfl⟩) rfl rfl (Nat.le_of_ble_eq_true rfl) dX2_senseOfBond_49 rfl ?_
    refine sf_imul X dX2_senseOfBond_52 rfl ?_
    exact sf_reti X h dX2_senseOfBond_53
  · have h := sf_ift c3 h
    refine sf_iconst (v := 0) X dX2_senseOfBond_13 sf_ic_0 rfl ?_
    exact sf_reti X h dX2_senseOfBond_14
def R_X5_addBond (σ : sf_St) (u0 u1 u2 : Int32) (τ : sf_St) : Prop :=
  ∃ τ2 : sf_St, R_X5_add σ (40 : Int32) τ2 ∧ (∃ τ4 : sf_St, R_X5_add τ2 ((((48 : Int32) + u0)).toUInt32 % 65536).toInt32 τ4 ∧ (if u1 = (2 : Int32) then (∃ τ34 : sf_St, R_X5_add τ4 (61 : Int32) τ34 ∧ (if u1 = (3 : Int32) then (∃ τ49 : sf_St, R_X5_add τ34 (35 : Int32) τ49 ∧ (if u2 = (0 : Int32) then (∃ τ52 : sf_St, R_X5_add τ49 (41 : Int32) τ52 ∧ (τ = τ52)) else (if u2 ≤ (0 : Int32) then (∃ τ55 : sf_St, R_X5_add τ49 (116 : Int32) τ55 ∧ (∃ τ57 : sf_St, R_X5_add τ55 (41 : Int32) τ57 ∧ (τ = τ57))) else (∃ τ59 : sf_St, R_X5_add τ49 (99 : Int32) τ59 ∧ (∃ τ61 : sf_St, R_X5_add τ59 (41 : Int32) τ61 ∧ (τ = τ61)))))) else (if u2 = (0 : Int32) then (∃ τ38 : sf_St, R_X5_add τ34 (41 : Int32) τ38 ∧ (τ = τ38)) else (if u2 ≤ (0 : Int32) then (∃ τ41 : sf_St, R_X5_add τ34 (116 : Int32) τ41 ∧ (∃ τ43 : sf_St, R_X5_add τ41 (41 : Int32) τ43 ∧ (τ = τ43))) else (∃ τ45 : sf_St, R_X5_add τ34 (99 : Int32) τ45 ∧ (∃ τ47 : sf_St, R_X5_add τ45 (41 : Int32) τ47 ∧ (τ = τ47))))))) else (if u1 = (3 : Int32) then (∃ τ20 : sf_St, R_X5_add τ4 (35 : Int32) τ20 ∧ (if u2 = (0 : Int32) then (∃ τ23 : sf_St, R_X5_add τ20 (41 : Int32) τ23 ∧ (τ = τ23)) else (if u2 ≤ (0 : Int32) then (∃ τ26 : sf_St, R_X5_add τ20 (116 : Int32) τ26 ∧ (∃ τ28 : sf_St, R_X5_add τ26 (41 : Int32) τ28 ∧ (τ = τ28))) else (∃ τ30 : sf_St, R_X5_add τ20 (99 : Int32) τ30 ∧ (∃ τ32 : sf_St, R_X5_add τ30 (41 : Int32) τ32 ∧ (τ = τ32)))))) else (if u2 = (0 : Int32) then (∃ τ9 : sf_St, R_X5_add τ4 (41 : Int32) τ9 ∧ (τ = τ9)) else (if u2 ≤ (0 : Int32) then (∃ τ12 : sf_St, R_X5_add τ4 (116 : Int32) τ12 ∧ (∃ τ14 : sf_St, R_X5_add τ12 (41 : Int32) τ14 ∧ (τ = τ14))) else (∃ τ16 : sf_St, R_X5_add τ4 (99 : Int32) τ16 ∧ (∃ τ18 : sf_St, R_X5_add τ16 (41 : Int32) τ18 ∧ (τ = τ18))))))))
set_option maxHeartbeats 4000000 in
set_option maxRecDepth 100000 in
theorem c_X5_addBond {l : Launch} {D : va_G} {q : Nat → Nat} {dA : Nat → ClassId} {tv ta tb : Nat} (hq : sf_inj q KX) {σ τ : sf_St} {u0 u1 u2 : Int32} (h : R_X5_addBond σ u0 u1 u2 τ) : sf_Mv l yX5_addBond wsX5_addBond ({ frames := 1, cells := 0, slots := 0, locals := 21 }) D vwCl q dA KX (sf_EX q tv ta tb) [.ref (q 43), .int u0, .int u1, .int u2] σ τ := by
  refine sf_metv (cc := cX5_addBond) (maxL := 4) (ret := none) (own := RX5) (by decide +kernel) rfl rfl hq sf_EXk (Nat.le_of_ble_eq_true rfl) ?_
  intro p e s m args below meth c X
  have hT := X.2.2.2.1.2.1
  unfold R_X5_addBond at h
  refine sf_loc (lv' := [(0, .ref (q 43)), (1, .int u0), (2, .int u1), (3, .int u2)]) [0, 1, 2, 3] rfl ?_
  refine sf_aload_n (i := 0) (j := 0) X dX5_addBond_0 rfl rfl rfl ?_
  refine sf_bipush (v := 40) X dX5_addBond_1 sf_bc_40 rfl ?_
  obtain ⟨τ2, hR1, h⟩ := h
  refine sf_callVv (As := [.int (40 : Int32)]) (rest := []) (cv := (RX5, TX5, 2)) X rfl rfl (c_X5_add hq hR1) (cwV 1 X.1.2.2.2.2 (sf_gV tw_605 tw_607 tw_12 tw_47 tw_608) rfl rfl rfl ⟨rfl, hd_X5_add⟩ ⟨Nat.le_of_ble_eq_true rfl, Nat.le_of_ble_eq_true rfl⟩) rfl rfl (Nat.le_of_ble_eq_true rfl) dX5_addBond_3 rfl ?_
  refine sf_aload_n (i := 0) (j := 0) X dX5_addBond_6 rfl rfl rfl ?_
  refine sf_bipush (v := 48) X dX5_addBond_7 sf_bc_48 rfl ?_
  refine sf_iload_n (i := 1) (j := 1) X dX5_addBond_9 rfl rfl rfl ?_
  refine sf_iadd X dX5_addBond_10 rfl ?_
  refine sf_i2c X dX5_addBond_11 rfl ?_
  obtain ⟨τ4, hR3, h⟩ := h
  refine sf_callVv (As := [.int ((((48 : Int32) + u0)).toUInt32 % 65536).toInt32]) (rest := []) (cv := (RX5, TX5, 2)) X rfl rfl (c_X5_add hq hR3) (cwV 1 X.1.2.2.2.2 (sf_gV tw_605 tw_607 tw_12 tw_47 tw_608) rfl rfl rfl ⟨rfl, hd_X5_add⟩ ⟨Nat.le_of_ble_eq_true rfl, Nat.le_of_ble_eq_true rfl⟩) rfl rfl (Nat.le_of_ble_eq_true rfl) dX5_addBond_12 rfl ?_
  refine sf_iload_n (i := 2) (j := 2) X dX5_addBond_15 rfl rfl rfl ?_
  refine sf_iconst (v := 2) X dX5_addBond_16 sf_ic_2 rfl ?_
  refine sf_icmp_ne (tgt := 26) X dX5_addBond_17 rfl rfl (fun c5 => ?_) (fun c5 => ?_)
  · have h := sf_iff c5 h
    refine sf_iload_n (i := 2) (j := 2) X dX5_addBond_26 rfl rfl rfl ?_
    refine sf_iconst (v := 3) X dX5_addBond_27 sf_ic_3 rfl ?_
    refine sf_icmp_ne (tgt := 37) X dX5_addBond_28 rfl rfl (fun c6 => ?_) (fun c6 => ?_)
    · have h := sf_iff c6 h
      refine sf_iload_n (i := 3) (j := 3) X dX5_addBond_37 rfl rfl rfl ?_
      refine sf_if_eq (tgt := 56) X dX5_addBond_38 rfl rfl (fun c7 => ?_) (fun c7 => ?_)
      · have h := sf_ift c7 h
        refine sf_aload_n (i := 0) (j := 0) X dX5_addBond_56 rfl rfl rfl ?_
        refine sf_bipush (v := 41) X dX5_addBond_57 sf_bc_41 rfl ?_
        obtain ⟨τ9, hR8, h⟩ := h
        refine sf_callVv (As := [.int (41 : Int32)]) (rest := []) (cv := (RX5, TX5, 2)) X rfl rfl (c_X5_add hq hR8) (cwV 1 X.1.2.2.2.2 (sf_gV tw_605 tw_607 tw_12 tw_47 tw_608) rfl rfl rfl ⟨rfl, hd_X5_add⟩ ⟨Nat.le_of_ble_eq_true rfl, Nat.le_of_ble_eq_true rfl⟩) rfl rfl (Nat.le_of_ble_eq_true rfl) dX5_addBond_59 rfl ?_
        exact sf_retv X h dX5_addBond_62
      · have h := sf_iff c7 h
        refine sf_aload_n (i := 0) (j := 0) X dX5_addBond_41 rfl rfl rfl ?_
        refine sf_iload_n (i := 3) (j := 3) X dX5_addBond_42 rfl rfl rfl ?_
        refine sf_if_le (tgt := 51) X dX5_addBond_43 rfl rfl (fun c10 => ?_) (fun c10 => ?_)
        · have h := sf_ift c10 h
          refine sf_bipush (v := 116) X dX5_addBond_51 sf_bc_116 rfl ?_
          obtain ⟨τ12, hR11, h⟩ := h
          refine sf_callVv (As := [.int (116 : Int32)]) (rest := []) (cv := (RX5, TX5, 2)) X rfl rfl (c_X5_add hq hR11) (cwV 1 X.1.2.2.2.2 (sf_gV tw_605 tw_607 tw_12 tw_47 tw_608) rfl rfl rfl ⟨rfl, hd_X5_add⟩ ⟨Nat.le_of_ble_eq_true rfl, Nat.le_of_ble_eq_true rfl⟩) rfl rfl (Nat.le_of_ble_eq_true rfl) dX5_addBond_53 rfl ?_
          refine sf_aload_n (i := 0) (j := 0) X dX5_addBond_56 rfl rfl rfl ?_
          refine sf_bipush (v := 41) X dX5_addBond_57 sf_bc_41 rfl ?_
          obtain ⟨τ14, hR13, h⟩ := h
          refine sf_callVv (As := [.int (41 : Int32)]) (rest := []) (cv := (RX5, TX5, 2)) X rfl rfl (c_X5_add hq hR13) (cwV 1 X.1.2.2.2.2 (sf_gV tw_605 tw_607 tw_12 tw_47 tw_608) rfl rfl rfl ⟨rfl, hd_X5_add⟩ ⟨Nat.le_of_ble_eq_true rfl, Nat.le_of_ble_eq_true rfl⟩) rfl rfl (Nat.le_of_ble_eq_true rfl) dX5_addBond_59 rfl ?_
          exact sf_retv X h dX5_addBond_62
        · have h := sf_iff c10 h
          refine sf_bipush (v := 99) X dX5_addBond_46 sf_bc_99 rfl ?_
          refine sf_goto (tgt := 53) X dX5_addBond_48 rfl ?_
          obtain ⟨τ16, hR15, h⟩ := h
          refine sf_callVv (As := [.int (99 : Int32)]) (rest := []) (cv := (RX5, TX5, 2)) X rfl rfl (c_X5_add hq hR15) (cwV 1 X.1.2.2.2.2 (sf_gV tw_605 tw_607 tw_12 tw_47 tw_608) rfl rfl rfl ⟨rfl, hd_X5_add⟩ ⟨Nat.le_of_ble_eq_true rfl, Nat.le_of_ble_eq_true rfl⟩) rfl rfl (Nat.le_of_ble_eq_true rfl) dX5_addBond_53 rfl ?_
          refine sf_aload_n (i := 0) (j := 0) X dX5_addBond_56 rfl rfl rfl ?_
          refine sf_bipush (v := 41) X dX5_addBond_57 sf_bc_41 rfl ?_
          obtain ⟨τ18, hR17, h⟩ := h
          refine sf_callVv (As := [.int (41 : Int32)]) (rest := []) (cv := (RX5, TX5, 2)) X rfl rfl (c_X5_add hq hR17) (cwV 1 X.1.2.2.2.2 (sf_gV tw_605 tw_607 tw_12 tw_47 tw_608) rfl rfl rfl ⟨rfl, hd_X5_add⟩ ⟨Nat.le_of_ble_eq_true rfl, Nat.le_of_ble_eq_true rfl⟩) rfl rfl (Nat.le_of_ble_eq_true rfl) dX5_addBond_59 rfl ?_
          exact sf_retv X h dX5_addBond_62
    · have h := sf_ift c6 h
      refine sf_aload_n (i := 0) (j := 0) X dX5_addBond_31 rfl rfl rfl ?_
      refine sf_bipush (v := 35) X dX5_addBond_32 sf_bc_35 rfl ?_
      obtain ⟨τ20, hR19, h⟩ := h
      refine sf_callVv (As := [.int (35 : Int32)]) (rest := []) (cv := (RX5, TX5, 2)) X rfl rfl (c_X5_add hq hR19) (cwV 1 X.1.2.2.2.2 (sf_gV tw_605 tw_607 tw_12 tw_47 tw_608) rfl rfl rfl ⟨rfl, hd_X5_add⟩ ⟨Nat.le_of_ble_eq_true rfl, Nat.le_of_ble_eq_true rfl⟩) rfl rfl (Nat.le_of_ble_eq_true rfl) dX5_addBond_34 rfl ?_
      refine sf_iload_n (i := 3) (j := 3) X dX5_addBond_37 rfl rfl rfl ?_
      refine sf_if_eq (tgt := 56) X dX5_addBond_38 rfl rfl (fun c21 => ?_) (fun c21 => ?_)
      · have h := sf_ift c21 h
        refine sf_aload_n (i := 0) (j := 0) X dX5_addBond_56 rfl rfl rfl ?_
        refine sf_bipush (v := 41) X dX5_addBond_57 sf_bc_41 rfl ?_
        obtain ⟨τ23, hR22, h⟩ := h
        refine sf_callVv (As := [.int (41 : Int32)]) (rest := []) (cv := (RX5, TX5, 2)) X rfl rfl (c_X5_add hq hR22) (cwV 1 X.1.2.2.2.2 (sf_gV tw_605 tw_607 tw_12 tw_47 tw_608) rfl rfl rfl ⟨rfl, hd_X5_add⟩ ⟨Nat.le_of_ble_eq_true rfl, Nat.le_of_ble_eq_true rfl⟩) rfl rfl (Nat.le_of_ble_eq_true rfl) dX5_addBond_59 rfl ?_
        exact sf_retv X h dX5_addBond_62
      · have h := sf_iff c21 h
        refine sf_aload_n (i := 0) (j := 0) X dX5_addBond_41 rfl rfl rfl ?_
        refine sf_iload_n (i := 3) (j := 3) X dX5_addBond_42 rfl rfl rfl ?_
        refine sf_if_le (tgt := 51) X dX5_addBond_43 rfl rfl (fun c24 => ?_) (fun c24 => ?_)
        · have h := sf_ift c24 h
          refine sf_bipush (v := 116) X dX5_addBond_51 sf_bc_116 rfl ?_
          obtain ⟨τ26, hR25, h⟩ := h
          refine sf_callVv (As := [.int (116 : Int32)]) (rest := []) (cv := (RX5, TX5, 2)) X rfl rfl (c_X5_add hq hR25) (cwV 1 X.1.2.2.2.2 (sf_gV tw_605 tw_607 tw_12 tw_47 tw_608) rfl rfl rfl ⟨rfl, hd_X5_add⟩ ⟨Nat.le_of_ble_eq_true rfl, Nat.le_of_ble_eq_true rfl⟩) rfl rfl (Nat.le_of_ble_eq_true rfl) dX5_addBond_53 rfl ?_
          refine sf_aload_n (i := 0) (j := 0) X dX5_addBond_56 rfl rfl rfl ?_
          refine sf_bipush (v := 41) X dX5_addBond_57 sf_bc_41 rfl ?_
          obtain ⟨τ28, hR27, h⟩ := h
          refine sf_callVv (As := [.int (41 : Int32)]) (rest := []) (cv := (RX5, TX5, 2)) X rfl rfl (c_X5_add hq hR27) (cwV 1 X.1.2.2.2.2 (sf_gV tw_605 tw_607 tw_12 tw_47 tw_608) rfl rfl rfl ⟨rfl, hd_X5_add⟩ ⟨Nat.le_of_ble_eq_true rfl, Nat.le_of_ble_eq_true rfl⟩) rfl rfl (Nat.le_of_ble_eq_true rfl) dX5_addBond_59 rfl ?_
          exact sf_retv X h dX5_addBond_62
        · have h := sf_iff c24 h
          refine sf_bipush (v := 99) X dX5_addBond_46 sf_bc_99 rfl ?_
          refine sf_goto (tgt := 53) X dX5_addBond_48 rfl ?_
          obtain ⟨τ30, hR29, h⟩ := h
          refine sf_callVv (As := [.int (99 : Int32)]) (rest := []) (cv := (RX5, TX5, 2)) X rfl rfl (c_X5_add hq hR29) (cwV 1 X.1.2.2.2.2 (sf_gV tw_605 tw_607 tw_12 tw_47 tw_608) rfl rfl rfl ⟨rfl, hd_X5_add⟩ ⟨Nat.le_of_ble_eq_true rfl, Nat.le_of_ble_eq_true rfl⟩) rfl rfl (Nat.le_of_ble_eq_true rfl) dX5_addBond_53 rfl ?_
          refine sf_aload_n (i := 0) (j := 0) X dX5_addBond_56 rfl rfl rfl ?_
          refine sf_bipush (v := 41) X dX5_addBond_57 sf_bc_41 rfl ?_
          obtain ⟨τ32, hR31, h⟩ := h
          refine sf_callVv (As := [.int (41 : Int32)]) (rest := []) (cv := (RX5, TX5, 2)) X rfl rfl (c_X5_add hq hR31) (cwV 1 X.1.2.2.2.2 (sf_gV tw_605 tw_607 tw_12 tw_47 tw_608) rfl rfl rfl ⟨rfl, hd_X5_add⟩ ⟨Nat.le_of_ble_eq_true rfl, Nat.le_of_ble_eq_true rfl⟩) rfl rfl (Nat.le_of_ble_eq_true rfl) dX5_addBond_59 rfl ?_
          exact sf_retv X h dX5_addBond_62
  · have h := sf_ift c5 h
    refine sf_aload_n (i := 0) (j := 0) X dX5_addBond_20 rfl rfl rfl ?_
    refine sf_bipush (v := 61) X dX5_addBond_21 sf_bc_61 rfl ?_
    obtain ⟨τ34, hR33, h⟩ := h
    refine sf_callVv (As := [.int (61 : Int32)]) (rest := []) (cv := (RX5, TX5, 2)) X rfl rfl (c_X5_add hq hR33) (cwV 1 X.1.2.2.2.2 (sf_gV tw_605 tw_607 tw_12 tw_47 tw_608) rfl rfl rfl ⟨rfl, hd_X5_add⟩ ⟨Nat.le_of_ble_eq_true rfl, Nat.le_of_ble_eq_true rfl⟩) rfl rfl (Nat.le_of_ble_eq_true rfl) dX5_addBond_23 rfl ?_
    refine sf_iload_n (i := 2) (j := 2) X dX5_addBond_26 rfl rfl rfl ?_
    refine sf_iconst (v := 3) X dX5_addBond_27 sf_ic_3 rfl ?_
    refine sf_icmp_ne (tgt := 37) X dX5_addBond_28 rfl rfl (fun c35 => ?_) (fun c35 => ?_)
    · have h := sf_iff c35 h
      refine sf_iload_n (i := 3) (j := 3) X dX5_addBond_37 rfl rfl rfl ?_
      refine sf_if_eq (tgt := 56) X dX5_addBond_38 rfl rfl (fun c36 => ?_) (fun c36 => ?_)
      · have h := sf_ift c36 h
        refine sf_aload_n (i := 0) (j := 0) X dX5_addBond_56 rfl rfl rfl ?_
        refine sf_bipush (v := 41) X dX5_addBond_57 sf_bc_41 rfl ?_
        obtain ⟨τ38, hR37, h⟩ := h
        refine sf_callVv (As := [.int (41 : Int32)]) (rest := []) (cv := (RX5, TX5, 2)) X rfl rfl (c_X5_add hq hR37) (cwV 1 X.1.2.2.2.2 (sf_gV tw_605 tw_607 tw_12 tw_47 tw_608) rfl rfl rfl ⟨rfl, hd_X5_add⟩ ⟨Nat.le_of_ble_eq_true rfl, Nat.le_of_ble_eq_true rfl⟩) rfl rfl (Nat.le_of_ble_eq_true rfl) dX5_addBond_59 rfl ?_
        exact sf_retv X h dX5_addBond_62
      · have h := sf_iff c36 h
        refine sf_aload_n (i := 0) (j := 0) X dX5_addBond_41 rfl rfl rfl ?_
        refine sf_iload_n (i := 3) (j := 3) X dX5_addBond_42 rfl rfl rfl ?_
        refine sf_if_le (tgt := 51) X dX5_addBond_43 rfl rfl (fun c39 => ?_) (fun c39 => ?_)
        · have h := sf_ift c39 h
          refine sf_bipush (v := 116) X dX5_addBond_51 sf_bc_116 rfl ?_
          obtain ⟨τ41, hR40, h⟩ := h
          refine sf_callVv (As := [.int (116 : Int32)]) (rest := []) (cv := (RX5, TX5, 2)) X rfl rfl (c_X5_add hq hR40) (cwV 1 X.1.2.2.2.2 (sf_gV tw_605 tw_607 tw_12 tw_47 tw_608) rfl rfl rfl ⟨rfl, hd_X5_add⟩ ⟨Nat.le_of_ble_eq_true rfl, Nat.le_of_ble_eq_true rfl⟩) rfl rfl (Nat.le_of_ble_eq_true rfl) dX5_addBond_53 rfl ?_
          refine sf_aload_n (i := 0) (j := 0) X dX5_addBond_56 rfl rfl rfl ?_
          refine sf_bipush (v := 41) X dX5_addBond_57 sf_bc_41 rfl ?_
          obtain ⟨τ43, hR42, h⟩ := h
          refine sf_callVv (As := [.int (41 : Int32)]) (rest := []) (cv := (RX5, TX5, 2)) X rfl rfl (c_X5_add hq hR42) (cwV 1 X.1.2.2.2.2 (sf_gV tw_605 tw_607 tw_12 tw_47 tw_608) rfl rfl rfl ⟨rfl, hd_X5_add⟩ ⟨Nat.le_of_ble_eq_true rfl, Nat.le_of_ble_eq_true rfl⟩) rfl rfl (Nat.le_of_ble_eq_true rfl) dX5_addBond_59 rfl ?_
          exact sf_retv X h dX5_addBond_62
        · have h := sf_iff c39 h
          refine sf_bipush (v := 99) X dX5_addBond_46 sf_bc_99 rfl ?_
          refine sf_goto (tgt := 53) X dX5_addBond_48 rfl ?_
          obtain ⟨τ45, hR44, h⟩ := h
          refine sf_callVv (As := [.int (99 : Int32)]) (rest := []) (cv := (RX5, TX5, 2)) X rfl rfl (c_X5_add hq hR44) (cwV 1 X.1.2.2.2.2 (sf_gV tw_605 tw_607 tw_12 tw_47 tw_608) rfl rfl rfl ⟨rfl, hd_X5_add⟩ ⟨Nat.le_of_ble_eq_true rfl, Nat.le_of_ble_eq_true rfl⟩) rfl rfl (Nat.le_of_ble_eq_true rfl) dX5_addBond_53 rfl ?_
          refine sf_aload_n (i := 0) (j := 0) X dX5_addBond_56 rfl rfl rfl ?_
          refine sf_bipush (v := 41) X dX5_addBond_57 sf_bc_41 rfl ?_
          obtain ⟨τ47, hR46, h⟩ := h
          refine sf_callVv (As := [.int (41 : Int32)]) (rest := []) (cv := (RX5, TX5, 2)) X rfl rfl (c_X5_add hq hR46) (cwV 1 X.1.2.2.2.2 (sf_gV tw_605 tw_607 tw_12 tw_47 tw_608) rfl rfl rfl ⟨rfl, hd_X5_add⟩ ⟨Nat.le_of_ble_eq_true rfl, Nat.le_of_ble_eq_true rfl⟩) rfl rfl (Nat.le_of_ble_eq_true rfl) dX5_addBond_59 rfl ?_
          exact sf_retv X h dX5_addBond_62
    · have h := sf_ift c35 h
      refine sf_aload_n (i := 0) (j := 0) X dX5_addBond_31 rfl rfl rfl ?_
      refine sf_bipush (v := 35) X dX5_addBond_32 sf_bc_35 rfl ?_
      obtain ⟨τ49, hR48, h⟩ := h
      refine sf_callVv (As := [.int (35 : Int32)]) (rest := []) (cv := (RX5, TX5, 2)) X rfl rfl (c_X5_add hq hR48) (cwV 1 X.1.2.2.2.2 (sf_gV tw_605 tw_607 tw_12 tw_47 tw_608) rfl rfl rfl ⟨rfl, hd_X5_add⟩ ⟨Nat.le_of_ble_eq_true rfl, Nat.le_of_ble_eq_true rfl⟩) rfl rfl (Nat.le_of_ble_eq_true rfl) dX5_addBond_34 rfl ?_
      refine sf_iload_n (i := 3) (j := 3) X dX5_addBond_37 rfl rfl rfl ?_
      refine sf_if_eq (tgt := 56) X dX5_addBond_38 rfl rfl (fun c50 => ?_) (fun c50 => ?_)
      · have h := sf_ift c50 h
        refine sf_aload_n (i := 0) (j := 0) X dX5_addBond_56 rfl rfl rfl ?_
        refine sf_bipush (v := 41) X dX5_addBond_57 sf_bc_41 rfl ?_
        obtain ⟨τ52, hR51, h⟩ := h
        refine sf_callVv (As := [.int (41 : Int32)]) (rest := []) (cv := (RX5, TX5, 2)) X rfl rfl (c_X5_add hq hR51) (cwV 1 X.1.2.2.2.2 (sf_gV tw_605 tw_607 tw_12 tw_47 tw_608) rfl rfl rfl ⟨rfl, hd_X5_add⟩ ⟨Nat.le_of_ble_eq_true rfl, Nat.le_of_ble_eq_true rfl⟩) rfl rfl (Nat.le_of_ble_eq_true rfl) dX5_addBond_59 rfl ?_
        exact sf_retv X h dX5_addBond_62
      · have h := sf_iff c50 h
        refine sf_aload_n (i := 0) (j := 0) X dX5_addBond_41 rfl rfl rfl ?_
        refine sf_iload_n (i := 3) (j := 3) X dX5_addBond_42 rfl rfl rfl ?_
        refine sf_if_le (tgt := 51) X dX5_addBond_43 rfl rfl (fun c53 => ?_) (fun c53 => ?_)
        · have h := sf_ift c53 h
          refine sf_bipush (v := 116) X dX5_addBond_51 sf_bc_116 rfl ?_
          obtain ⟨τ55, hR54, h⟩ := h
          refine sf_callVv (As := [.int (116 : Int32)]) (rest := []) (cv := (RX5, TX5, 2)) X rfl rfl (c_X5_add hq hR54) (cwV 1 X.1.2.2.2.2 (sf_gV tw_605 tw_607 tw_12 tw_47 tw_608) rfl rfl rfl ⟨rfl, hd_X5_add⟩ ⟨Nat.le_of_ble_eq_true rfl, Nat.le_of_ble_eq_true rfl⟩) rfl rfl (Nat.le_of_ble_eq_true rfl) dX5_addBond_53 rfl ?_
          refine sf_aload_n (i := 0) (j := 0) X dX5_addBond_56 rfl rfl rfl ?_
          refine sf_bipush (v := 41) X dX5_addBond_57 sf_bc_41 rfl ?_
          obtain ⟨τ57, hR56, h⟩ := h
          refine sf_callVv (As := [.int (41 : Int32)]) (rest := []) (cv := (RX5, TX5, 2)) X rfl rfl (c_X5_add hq hR56) (cwV 1 X.1.2.2.2.2 (sf_gV tw_605 tw_607 tw_12 tw_47 tw_608) rfl rfl rfl ⟨rfl, hd_X5_add⟩ ⟨Nat.le_of_ble_eq_true rfl, Nat.le_of_ble_eq_true rfl⟩) rfl rfl (Nat.le_of_ble_eq_true rfl) dX5_addBond_59 rfl ?_
          exact sf_retv X h dX5_addBond_62
        · have h := sf_iff c53 h
          refine sf_bipush (v := 99) X dX5_addBond_46 sf_bc_99 rfl ?_
          refine sf_goto (tgt := 53) X dX5_addBond_48 rfl ?_
          obtain ⟨τ59, hR58, h⟩ := h
          refine sf_callVv (As := [.int (99 : Int32)]) (rest := []) (cv := (RX5, TX5, 2)) X rfl rfl (c_X5_add hq hR58) (cwV 1 X.1.2.2.2.2 (sf_gV tw_605 tw_607 tw_12 tw_47 tw_608) rfl rfl rfl ⟨rfl, hd_X5_add⟩ ⟨Nat.le_of_ble_eq_true rfl, Nat.le_of_ble_eq_true rfl⟩) rfl rfl (Nat.le_of_ble_eq_true rfl) dX5_addBond_53 rfl ?_
          refine sf_aload_n (i := 0) (j := 0) X dX5_addBond_56 rfl rfl rfl ?_
          refine sf_bipush (v := 41) X dX5_addBond_57 sf_bc_41 rfl ?_
          obtain ⟨τ61, hR60, h⟩ := h
          refine sf_callVv (As := [.int (41 : Int32)]) (rest := []) (cv := (RX5, TX5, 2)) X rfl rfl (c_X5_add hq hR60) (cwV 1 X.1.2.2.2.2 (sf_gV tw_605 tw_607 tw_12 tw_47 tw_608) rfl rfl rfl ⟨rfl, hd_X5_add⟩ ⟨Nat.le_of_ble_eq_true rfl, Nat.le_of_ble_eq_true rfl⟩) rfl rfl (Nat.le_of_ble_eq_true rfl) dX5_addBond_59 rfl ?_
          exact sf_retv X h dX5_addBond_62
def tr_R_X5_describe_0 (Pr : Nat → sf_St → Int32 → Int32 → Int32 → Prop) (τ : sf_St) (σ : sf_St) (u0 u1 u2 : Int32) : Prop :=
  ∀ τ1 : sf_St, τ1 = sf_up σ 43 1 (0 : Int32) → (Pr 1 τ1 (0 : Int32) 0 0)
def tr_R_X5_describe_1 (Pr : Nat → sf_St → Int32 → Int32 → Int32 → Prop) (τ : sf_St) (σ : sf_St) (u0 u1 u2 : Int32) : Prop :=
  if (σ 1 3) ≤ u0 then (τ = σ) else (vp_in u0 7 ∧ (∀ y4 : Int32, y4 = (σ 41 (sf_ix u0)) → (vp_in y4 7 ∧ (∃ τ7 : sf_St, R_X5_addElement σ (σ 2 (sf_ix y4)) τ7 ∧ (∃ (r10 : Int32) (τ9 : sf_St), R_X2_senseOfAtom 41 42 18 19 20 21 τ7 y4 r10 τ9 ∧ (∃ τ12 : sf_St, R_X5_addSense τ9 r10 τ12 ∧ (Pr 2 τ12 u0 y4 (0 : Int32))))))))
def tr_R_X5_describe_2 (Pr : Nat → sf_St → Int32 → Int32 → Int32 → Prop) (τ : sf_St) (σ : sf_St) (u0 u1 u2 : Int32) : Prop :=
  if u0 ≤ u2 then (∃ τ15 : sf_St, R_X5_add σ (59 : Int32) τ15 ∧ (∀ y16 : Int32, y16 = u0 + (1 : Int32) → (Pr 1 τ15 y16 0 0))) else (vp_in u2 7 ∧ (∃ (r20 : Int32) (τ19 : sf_St), R_X0_bondOf σ u1 (σ 41 (sf_ix u2)) r20 τ19 ∧ (if r20 = (-1 : Int32) then (∀ y22 : Int32, y22 = u2 + (1 : Int32) → (Pr 2 τ19 u0 u1 y22)) else (∃ (r25 : Int32) (τ24 : sf_St), R_X2_senseOfBond 41 42 18 19 20 21 τ19 r20 r25 τ24 ∧ (vp_in r20 9 ∧ (∃ τ28 : sf_St, R_X5_addBond τ24 u2 (τ24 7 (sf_ix r20)) r25 τ28 ∧ (∀ y29 : Int32, y29 = u2 + (1 : Int32) → (Pr 2 τ28 u0 u1 y29))))))))
def fn_R_X5_describe (Pr : Nat → sf_St → Int32 → Int32 → Int32 → Prop) (τ : sf_St) (t : Nat) (σ : sf_St) (u0 u1 u2 : Int32) : Prop := match t with
  | 0 => tr_R_X5_describe_0 Pr τ σ u0 u1 u2
  | 1 => tr_R_X5_describe_1 Pr τ σ u0 u1 u2
  | 2 => tr_R_X5_describe_2 Pr τ σ u0 u1 u2
  | _ => False
def Rn_R_X5_describe (t : Nat) (σ : sf_St) (u0 u1 u2 : Int32) (τ : sf_St) : Prop := ∀ Pr : Nat → sf_St → Int32 → Int32 → Int32 → Prop, (∀ (t : Nat) (σ : sf_St) (u0 u1 u2 : Int32), fn_R_X5_describe Pr τ t σ u0 u1 u2 → Pr t σ u0 u1 u2) → Pr t σ u0 u1 u2
def R_X5_describe (σ : sf_St) (τ : sf_St) : Prop := Rn_R_X5_describe 0 σ  0 0 0 τ
theorem fe_R_X5_describe_0 {Pr : Nat → sf_St → Int32 → Int32 → Int32 → Prop} {τ σ : sf_St} {u0 u1 u2 : Int32} (h : fn_R_X5_describe Pr τ 0 σ u0 u1 u2) : tr_R_X5_describe_0 Pr τ σ u0 u1 u2 := h
theorem mo_R_X5_describe_0 {Pr Pr' : Nat → sf_St → Int32 → Int32 → Int32 → Prop} {τ σ : sf_St} {u0 u1 u2 : Int32} (hP : ∀ (t : Nat) (σ : sf_St) (u0 u1 u2 : Int32), Pr t σ u0 u1 u2 → Pr' t σ u0 u1 u2) (h : tr_R_X5_describe_0 Pr τ σ u0 u1 u2) : tr_R_X5_describe_0 Pr' τ σ u0 u1 u2 := by
  unfold tr_R_X5_describe_0 at h ⊢
  intro τ1 hτ1
  have h := h τ1 hτ1
  exact hP _ _ _ _ _ h
theorem ru_R_X5_describe_0 {τ σ : sf_St} {u0 u1 u2 : Int32} (h : tr_R_X5_describe_0 (fun t σ u0 u1 u2 => Rn_R_X5_describe t σ u0 u1 u2 τ) τ σ u0 u1 u2) : Rn_R_X5_describe 0 σ u0 u1 u2 τ := fun Pr hP => hP 0 σ u0 u1 u2 (mo_R_X5_describe_0 (fun _ _ _ _ _ h => h Pr hP) h)
theorem fe_R_X5_describe_1 {Pr : Nat → sf_St → Int32 → Int32 → Int32 → Prop} {τ σ : sf_St} {u0 u1 u2 : Int32} (h : fn_R_X5_describe Pr τ 1 σ u0 u1 u2) : tr_R_X5_describe_1 Pr τ σ u0 u1 u2 := h
theorem mo_R_X5_describe_1 {Pr Pr' : Nat → sf_St → Int32 → Int32 → Int32 → Prop} {τ σ : sf_St} {u0 u1 u2 : Int32} (hP : ∀ (t : Nat) (σ : sf_St) (u0 u1 u2 : Int32), Pr t σ u0 u1 u2 → Pr' t σ u0 u1 u2) (h : tr_R_X5_describe_1 Pr τ σ u0 u1 u2) : tr_R_X5_describe_1 Pr' τ σ u0 u1 u2 := by
  unfold tr_R_X5_describe_1 at h ⊢
  refine sf_mif (fun h => ?_) (fun h => ?_) h
  · exact h
  · refine And.imp id (fun h => ?_) h
    intro y4 hy4
    have h := h y4 hy4
    refine And.imp id (fun h => ?_) h
    refine Exists.imp (fun _ h => And.imp id (fun h => ?_) h) h
    refine Exists.imp (fun _ h => Exists.imp (fun _ h => And.imp id (fun h => ?_) h) h) h
    refine Exists.imp (fun _ h => And.imp id (fun h => ?_) h) h
    exact hP _ _ _ _ _ h
theorem ru_R_X5_describe_1 {τ σ : sf_St} {u0 u1 u2 : Int32} (h : tr_R_X5_describe_1 (fun t σ u0 u1 u2 => Rn_R_X5_describe t σ u0 u1 u2 τ) τ σ u0 u1 u2) : Rn_R_X5_describe 1 σ u0 u1 u2 τ := fun Pr hP => hP 1 σ u0 u1 u2 (mo_R_X5_describe_1 (fun _ _ _ _ _ h => h Pr hP) h)
theorem fe_R_X5_describe_2 {Pr : Nat → sf_St → Int32 → Int32 → Int32 → Prop} {τ σ : sf_St} {u0 u1 u2 : Int32} (h : fn_R_X5_describe Pr τ 2 σ u0 u1 u2) : tr_R_X5_describe_2 Pr τ σ u0 u1 u2 := h
theorem mo_R_X5_describe_2 {Pr Pr' : Nat → sf_St → Int32 → Int32 → Int32 → Prop} {τ σ : sf_St} {u0 u1 u2 : Int32} (hP : ∀ (t : Nat) (σ : sf_St) (u0 u1 u2 : Int32), Pr t σ u0 u1 u2 → Pr' t σ u0 u1 u2) (h : tr_R_X5_describe_2 Pr τ σ u0 u1 u2) : tr_R_X5_describe_2 Pr' τ σ u0 u1 u2 := by
  unfold tr_R_X5_describe_2 at h ⊢
  refine sf_mif (fun h => ?_) (fun h => ?_) h
  · refine Exists.imp (fun _ h => And.imp id (fun h => ?_) h) h
    intro y16 hy16
    have h := h y16 hy16
    exact hP _ _ _ _ _ h
  · refine And.imp id (fun h => ?_) h
    refine Exists.imp (fun _ h => Exists.imp (fun _ h => And.imp id (fun h => ?_) h) h) h
    refine sf_mif (fun h => ?_) (fun h => ?_) h
    · intro y22 hy22
      have h := h y22 hy22
      exact hP _ _ _ _ _ h
    · refine Exists.imp (fun _ h => Exists.imp (fun _ h => And.imp id (fun h => ?_) h) h) h
      refine And.imp id (fun h => ?_) h
      refine Exists.imp (fun _ h => And.imp id (fun h => ?_) h) h
      intro y29 hy29
      have h := h y29 hy29
      exact hP _ _ _ _ _ h
theorem ru_R_X5_describe_2 {τ σ : sf_St} {u0 u1 u2 : Int32} (h : tr_R_X5_describe_2 (fun t σ u0 u1 u2 => Rn_R_X5_describe t σ u0 u1 u2 τ) τ σ u0 u1 u2) : Rn_R_X5_describe 2 σ u0 u1 u2 τ := fun Pr hP => hP 2 σ u0 u1 u2 (mo_R_X5_describe_2 (fun _ _ _ _ _ h => h Pr hP) h)
set_option maxHeartbeats 4000000 in
set_option maxRecDepth 100000 in
theorem c_X5_describe {l : Launch} {D : va_G} {q : Nat → Nat} {dA : Nat → ClassId} {tv ta tb : Nat} (hq : sf_inj q KX) {σ τ : sf_St} (h : R_X5_describe σ  τ) : sf_Mv l yX5_describe wsX5_describe ({ frames := 5, cells := 0, slots := 0, locals := 112 }) D vwCl q dA KX (sf_EX q tv ta tb) [.ref (q 43), .ref (q 1), .ref (q 17), .ref (q 40)] σ τ := by
  refine sf_metv (cc := cX5_describe) (maxL := 9) (ret := none) (own := RX5) (by decide +kernel) rfl rfl hq sf_EXk (Nat.le_of_ble_eq_true rfl) ?_
  intro p e s m args below meth c X
  have hT := X.2.2.2.1.2.1
  refine sf_loc (lv' := [(0, .ref (q 43)), (1, .ref (q 1)), (2, .ref (q 17)), (3, .ref (q 40))]) [0, 1, 2, 3] rfl ?_
  refine h (fun t σ u0 u1 u2 => match t with
    | 0 => sf_G p l e (headSpec wsX5_describe ({ frames := 5, cells := 0, slots := 0, locals := 112 })).room s m args below meth c (sf_Qv D vwCl q dA KX (sf_EX q tv ta tb) below args s τ) 9 D vwCl q dA KX σ 0 [(0, .ref (q 43)), (1, .ref (q 1)), (2, .ref (q 17)), (3, .ref (q 40))] []
    | 1 => sf_G p l e (headSpec wsX5_describe ({ frames := 5, cells := 0, slots := 0, locals := 112 })).room s m args below meth c (sf_Qv D vwCl q dA KX (sf_EX q tv ta tb) below args s τ) 9 D vwCl q dA KX σ 8 [(0, .ref (q 43)), (1, .ref (q 1)), (2, .ref (q 17)), (3, .ref (q 40)), (4, .int u0)] []
    | 2 => sf_G p l e (headSpec wsX5_describe ({ frames := 5, cells := 0, slots := 0, locals := 112 })).room s m args below meth c (sf_Qv D vwCl q dA KX (sf_EX q tv ta tb) below args s τ) 9 D vwCl q dA KX σ 52 [(0, .ref (q 43)), (1, .ref (q 1)), (2, .ref (q 17)), (3, .ref (q 40)), (4, .int u0), (5, .int u1), (6, .int u2)] []
    | _ => True) ?_
  intro t σ u0 u1 u2 h
  match t, h with
  | 0, h =>
      replace h := fe_R_X5_describe_0 h
      unfold tr_R_X5_describe_0 at h
      show sf_G p l e (headSpec wsX5_describe ({ frames := 5, cells := 0, slots := 0, locals := 112 })).room s m args below meth c (sf_Qv D vwCl q dA KX (sf_EX q tv ta tb) below args s τ) 9 D vwCl q dA KX σ 0 [(0, .ref (q 43)), (1, .ref (q 1)), (2, .ref (q 17)), (3, .ref (q 40))] []
      refine sf_aload_n (i := 0) (j := 0) X dX5_describe_0 rfl rfl rfl ?_
      refine sf_iconst (v := 0) X dX5_describe_1 sf_ic_0 rfl ?_
      refine sf_putI (C := RX5) (T := TX5) (N := 2) (ci := 5) (j := 1) (ty := .int) X (fun w h => sf_memc (inX5 w h)) rfl rfl (by decide) (X.1.2.2.2.2 _ (sf_memc tw_216)) (fun _ h9 => h9) tyX5 tyX5_ok nmX5 rfl (by decide +kernel) rfl rfl rfl dX5_describe_2 rfl (fun τ1 hτ1 => ?_)
      have h := h τ1 hτ1
      refine sf_iconst (v := 0) X dX5_describe_5 sf_ic_0 rfl ?_
      refine sf_istore (i := 4) (lv' := [(4, .int (0 : Int32)), (0, .ref (q 43)), (1, .ref (q 1)), (2, .ref (q 17)), (3, .ref (q 40))]) X dX5_describe_6 (by decide) rfl rfl ?_
      refine sf_loc (lv' := [(0, .ref (q 43)), (1, .ref (q 1)), (2, .ref (q 17)), (3, .ref (q 40)), (4, .int (0 : Int32))]) [1, 2, 3, 4, 0] rfl ?_
      exact h
  | 1, h =>
      replace h := fe_R_X5_describe_1 h
      unfold tr_R_X5_describe_1 at h
      show sf_G p l e (headSpec wsX5_describe ({ frames := 5, cells := 0, slots := 0, locals := 112 })).room s m args below meth c (sf_Qv D vwCl q dA KX (sf_EX q tv ta tb) below args s τ) 9 D vwCl q dA KX σ 8 [(0, .ref (q 43)), (1, .ref (q 1)), (2, .ref (q 17)), (3, .ref (q 40)), (4, .int u0)] []
      refine sf_iload (i := 4) (j := 4) X dX5_describe_8 rfl rfl ?_
      refine sf_aload_n (i := 1) (j := 1) X dX5_describe_10 rfl rfl rfl ?_
      refine sf_getI (C := RX0) (T := TX0) (N := 10) (ci := 0) (j := 3) X (fun w h => sf_memc (inX0 w h)) rfl rfl (by decide) (X.1.2.2.2.2 _ (sf_memc tw_83)) (fun _ h9 => h9) rfl dX5_describe_11 rfl ?_
      refine sf_icmp_ge (tgt := 123) X dX5_describe_14 rfl rfl (fun c2 => ?_) (fun c2 => ?_)
      · have h := sf_ift c2 h
        exact sf_retv X h dX5_describe_123
      · have h := sf_iff c2 h
        refine sf_aload_n (i := 3) (j := 3) X dX5_describe_17 rfl rfl rfl ?_
        refine sf_getR (C := RX2) (T := TX2) (N := 2) (ci := 2) (j := 0) (k' := 41) X (fun w h => sf_memc (inX2 w h)) rfl rfl (by decide) (X.1.2.2.2.2 _ (sf_memc tw_159)) (fun _ h9 => h9) rfl dX5_describe_18 rfl ?_
        refine sf_iload (i := 4) (j := 4) X dX5_describe_21 rfl rfl ?_
        obtain ⟨b3, h⟩ := h
        refine sf_iald X rfl b3 dX5_describe_23 rfl ?_
        refine sf_top (fun y4 hy4 => ?_)
        have h := h y4 hy4
        refine sf_istore (i := 5) (lv' := [(5, .int y4), (0, .ref (q 43)), (1, .ref (q 1)), (2, .ref (q 17)), (3, .ref (q 40)), (4, .int u0)]) X dX5_describe_24 (by decide) rfl rfl ?_
        refine sf_aload_n (i := 0) (j := 1) X dX5_describe_26 rfl rfl rfl ?_
        refine sf_aload_n (i := 1) (j := 2) X dX5_describe_27 rfl rfl rfl ?_
        refine sf_getR (C := RX0) (T := TX0) (N := 10) (ci := 0) (j := 0) (k' := 2) X (fun w h => sf_memc (inX0 w h)) rfl rfl (by decide) (X.1.2.2.2.2 _ (sf_memc tw_73)) (fun _ h9 => h9) rfl dX5_describe_28 rfl ?_
        refine sf_iload (i := 5) (j := 0) X dX5_describe_31 rfl rfl ?_
        obtain ⟨b5, h⟩ := h
        refine sf_iald X rfl b5 dX5_describe_33 rfl ?_
        obtain ⟨τ7, hR6, h⟩ := h
        refine sf_callVv (As := [.int (σ 2 (sf_ix y4))]) (rest := []) (cv := (RX5, TX5, 2)) X rfl rfl (c_X5_addElement hq hR6) (cwV 1 X.1.2.2.2.2 (sf_gV tw_560 tw_562 tw_11 tw_47 tw_563) rfl rfl rfl ⟨rfl, hd_X5_addElement⟩ ⟨Nat.le_of_ble_eq_true rfl, Nat.le_of_ble_eq_true rfl⟩) rfl rfl (Nat.le_of_ble_eq_true rfl) dX5_describe_34 rfl ?_
        refine sf_aload_n (i := 0) (j := 1) X dX5_describe_37 rfl rfl rfl ?_
        refine sf_aload_n (i := 3) (j := 4) X dX5_describe_38 rfl rfl rfl ?_
        refine sf_aload_n (i := 1) (j := 2) X dX5_describe_39 rfl rfl rfl ?_
        refine sf_aload_n (i := 2) (j := 3) X dX5_describe_40 rfl rfl rfl ?_
        refine sf_iload (i := 5) (j := 0) X dX5_describe_41 rfl rfl ?_
        obtain ⟨r10, τ9, hR8, h⟩ := h
        refine sf_callVi (As := [.ref (q 1), .ref (q 17), .int y4]) (rest := [.ref (q 43)]) (cv := (RX2, TX2, 2)) X rfl rfl (c_X2_senseOfAtom_3 hq hR8) (cwV 3 X.1.2.2.2.2 (sf_gV tw_609 tw_450 tw_451 tw_45 tw_452) rfl rfl rfl ⟨rfl, hd_X2_senseOfAtom⟩ ⟨Nat.le_of_ble_eq_true rfl, Nat.le_of_ble_eq_true rfl⟩) rfl rfl (Nat.le_of_ble_eq_true rfl) dX5_describe_43 rfl ?_
        obtain ⟨τ12, hR11, h⟩ := h
        refine sf_callVv (As := [.int r10]) (rest := []) (cv := (RX5, TX5, 2)) X rfl rfl (c_X5_addSense hq hR11) (cwV 1 X.1.2.2.2.2 (sf_gV tw_610 tw_612 tw_13 tw_47 tw_613) rfl rfl rfl ⟨rfl, hd_X5_addSense⟩ ⟨Nat.le_of_ble_eq_true rfl, Nat.le_of_ble_eq_true rfl⟩) rfl rfl (Nat.le_of_ble_eq_true rfl) dX5_describe_46 rfl ?_
        refine sf_iconst (v := 0) X dX5_describe_49 sf_ic_0 rfl ?_
        refine sf_istore (i := 6) (lv' := [(6, .int (0 : Int32)), (5, .int y4), (0, .ref (q 43)), (1, .ref (q 1)), (2, .ref (q 17)), (3, .ref (q 40)), (4, .int u0)]) X dX5_describe_50 (by decide) rfl rfl ?_
        refine sf_loc (lv' := [(0, .ref (q 43)), (1, .ref (q 1)), (2, .ref (q 17)), (3, .ref (q 40)), (4, .int u0), (5, .int y4), (6, .int (0 : Int32))]) [2, 3, 4, 5, 6, 1, 0] rfl ?_
        exact h
  | 2, h =>
      replace h := fe_R_X5_describe_2 h
      unfold tr_R_X5_describe_2 at h
      show sf_G p l e (headSpec wsX5_describe ({ frames := 5, cells := 0, slots := 0, locals := 112 })).room s m args below meth c (sf_Qv D vwCl q dA KX (sf_EX q tv ta tb) below args s τ) 9 D vwCl q dA KX σ 52 [(0, .ref (q 43)), (1, .ref (q 1)), (2, .ref (q 17)), (3, .ref (q 40)), (4, .int u0), (5, .int u1), (6, .int u2)] []
      refine sf_iload (i := 6) (j := 6) X dX5_describe_52 rfl rfl ?_
      refine sf_iload (i := 4) (j := 4) X dX5_describe_54 rfl rfl ?_
      refine sf_icmp_ge (tgt := 111) X dX5_describe_56 rfl rfl (fun c13 => ?_) (fun c13 => ?_)
      · have h := sf_ift c13 h
        refine sf_aload_n (i := 0) (j := 0) X dX5_describe_111 rfl rfl rfl ?_
        refine sf_bipush (v := 59) X dX5_describe_112 sf_bc_59 rfl ?_
        obtain ⟨τ15, hR14, h⟩ := h
        refine sf_callVv (As := [.int (59 : Int32)]) (rest := []) (cv := (RX5, TX5, 2)) X rfl rfl (c_X5_add hq hR14) (cwV 1 X.1.2.2.2.2 (sf_gV tw_605 tw_607 tw_12 tw_47 tw_608) rfl rfl rfl ⟨rfl, hd_X5_add⟩ ⟨Nat.le_of_ble_eq_true rfl, Nat.le_of_ble_eq_true rfl⟩) rfl rfl (Nat.le_of_ble_eq_true rfl) dX5_describe_114 rfl ?_
        refine sf_iinc (i := 4) (j := 4) (d := 1) (lv' := fun y16 => [(4, .int y16), (0, .ref (q 43)), (1, .ref (q 1)), (2, .ref (q 17)), (3, .ref (q 40)), (5, .int u1), (6, .int u2)]) X dX5_describe_117 rfl sf_ic_1 (by decide) (fun _ => rfl) rfl (fun y16 hy16 => ?_)
        have h := h y16 hy16
        refine sf_goto (tgt := 8) X dX5_describe_120 rfl ?_
        refine sf_loc (lv' := [(0, .ref (q 43)), (1, .ref (q 1)), (2, .ref (q 17)), (3, .ref (q 40)), (4, .int y16)]) [1, 2, 3, 4, 0] rfl ?_
        exact h
      · have h := sf_iff c13 h
        refine sf_aload_n (i := 1) (j := 1) X dX5_describe_59 rfl rfl rfl ?_
        refine sf_iload (i := 5) (j := 5) X dX5_describe_60 rfl rfl ?_
        refine sf_aload_n (i := 3) (j := 3) X dX5_describe_62 rfl rfl rfl ?_
        refine sf_getR (C := RX2) (T := TX2) (N := 2) (ci := 2) (j := 0) (k' := 41) X (fun w h => sf_memc (inX2 w h)) rfl rfl (by decide) (X.1.2.2.2.2 _ (sf_memc tw_159)) (fun _ h9 => h9) rfl dX5_describe_63 rfl ?_
        refine sf_iload (i := 6) (j := 6) X dX5_describe_66 rfl rfl ?_
        obtain ⟨b17, h⟩ := h
        refine sf_iald X rfl b17 dX5_describe_68 rfl ?_
        obtain ⟨r20, τ19, hR18, h⟩ := h
        refine sf_callVi (As := [.int u1, .int (σ 41 (sf_ix u2))]) (rest := []) (cv := (RX0, TX0, 10)) X rfl rfl (c_X0_bondOf hq hR18) (cwV 2 X.1.2.2.2.2 (sf_gV tw_614 tw_369 tw_370 tw_42 tw_371) rfl rfl rfl ⟨rfl, hd_X0_bondOf⟩ ⟨Nat.le_of_ble_eq_true rfl, Nat.le_of_ble_eq_true rfl⟩) rfl rfl (Nat.le_of_ble_eq_true rfl) dX5_describe_69 rfl ?_
        refine sf_istore (i := 7) (lv' := [(7, .int r20), (0, .ref (q 43)), (1, .ref (q 1)), (2, .ref (q 17)), (3, .ref (q 40)), (4, .int u0), (5, .int u1), (6, .int u2)]) X dX5_describe_72 (by decide) rfl rfl ?_
        refine sf_iload (i := 7) (j := 0) X dX5_describe_74 rfl rfl ?_
        refine sf_iconst (v := (-1)) X dX5_describe_76 sf_ic_m1 rfl ?_
        refine sf_icmp_eq (tgt := 105) X dX5_describe_77 rfl rfl (fun c21 => ?_) (fun c21 => ?_)
        · have h := sf_ift c21 h
          refine sf_iinc (i := 6) (j := 7) (d := 1) (lv' := fun y22 => [(6, .int y22), (7, .int r20), (0, .ref (q 43)), (1, .ref (q 1)), (2, .ref (q 17)), (3, .ref (q 40)), (4, .int u0), (5, .int u1)]) X dX5_describe_105 rfl sf_ic_1 (by decide) (fun _ => rfl) rfl (fun y22 hy22 => ?_)
          have h := h y22 hy22
          refine sf_goto (tgt := 52) X dX5_describe_108 rfl ?_
          refine sf_loc (lv' := [(0, .ref (q 43)), (1, .ref (q 1)), (2, .ref (q 17)), (3, .ref (q 40)), (4, .int u0), (5, .int u1), (6, .int y22)]) [2, 3, 4, 5, 6, 7, 0] rfl ?_
          exact h
        · have h := sf_iff c21 h
          refine sf_aload_n (i := 3) (j := 4) X dX5_describe_80 rfl rfl rfl ?_
          refine sf_aload_n (i := 1) (j := 2) X dX5_describe_81 rfl rfl rfl ?_
          refine sf_aload_n (i := 2) (j := 3) X dX5_describe_82 rfl rfl rfl ?_
          refine sf_iload (i := 7) (j := 0) X dX5_describe_83 rfl rfl ?_
          obtain ⟨r25, τ24, hR23, h⟩ := h
          refine sf_callVi (As := [.ref (q 1), .ref (q 17), .int r20]) (rest := []) (cv := (RX2, TX2, 2)) X rfl rfl (c_X2_senseOfBond_3 hq hR23) (cwV 3 X.1.2.2.2.2 (sf_gV tw_615 tw_459 tw_460 tw_45 tw_461) rfl rfl rfl ⟨rfl, hd_X2_senseOfBond⟩ ⟨Nat.le_of_ble_eq_true rfl, Nat.le_of_ble_eq_true rfl⟩) rfl rfl (Nat.le_of_ble_eq_true rfl) dX5_describe_85 rfl ?_
          refine sf_istore (i := 8) (lv' := [(8, .int r25), (7, .int r20), (0, .ref (q 43)), (1, .ref (q 1)), (2, .ref (q 17)), (3, .ref (q 40)), (4, .int u0), (5, .int u1), (6, .int u2)]) X dX5_describe_88 (by decide) rfl rfl ?_
          refine sf_aload_n (i := 0) (j := 2) X dX5_describe_90 rfl rfl rfl ?_
          refine sf_iload (i := 6) (j := 8) X dX5_describe_91 rfl rfl ?_
          refine sf_aload_n (i := 1) (j := 3) X dX5_describe_93 rfl rfl rfl ?_
          refine sf_getR (C := RX0) (T := TX0) (N := 10) (ci := 0) (j := 6) (k' := 7) X (fun w h => sf_memc (inX0 w h)) rfl rfl (by decide) (X.1.2.2.2.2 _ (sf_memc tw_94)) (fun _ h9 => h9) rfl dX5_describe_94 rfl ?_
          refine sf_iload (i := 7) (j := 1) X dX5_describe_97 rfl rfl ?_
          obtain ⟨b26, h⟩ := h
          refine sf_iald X rfl b26 dX5_describe_99 rfl ?_
          refine sf_iload (i := 8) (j := 0) X dX5_describe_100 rfl rfl ?_
          obtain ⟨τ28, hR27, h⟩ := h
          refine sf_callVv (As := [.int u2, .int (τ24 7 (sf_ix r20)), .int r25]) (rest := []) (cv := (RX5, TX5, 2)) X rfl rfl (c_X5_addBond hq hR27) (cwV 3 X.1.2.2.2.2 (sf_gV tw_616 tw_618 tw_14 tw_47 tw_619) rfl rfl rfl ⟨rfl, hd_X5_addBond⟩ ⟨Nat.le_of_ble_eq_true rfl, Nat.le_of_ble_eq_true rfl⟩) rfl rfl (Nat.le_of_ble_eq_true rfl) dX5_describe_102 rfl ?_
          refine sf_iinc (i := 6) (j := 8) (d := 1) (lv' := fun y29 => [(6, .int y29), (8, .int r25), (7, .int r20), (0, .ref (q 43)), (1, .ref (q 1)), (2, .ref (q 17)), (3, .ref (q 40)), (4, .int u0), (5, .int u1)]) X dX5_describe_105 rfl sf_ic_1 (by decide) (fun _ => rfl) rfl (fun y29 hy29 => ?_)
          have h := h y29 hy29
          refine sf_goto (tgt := 52) X dX5_describe_108 rfl ?_
          refine sf_loc (lv' := [(0, .ref (q 43)), (1, .ref (q 1)), (2, .ref (q 17)), (3, .ref (q 40)), (4, .int u0), (5, .int u1), (6, .int y29)]) [3, 4, 5, 6, 7, 8, 0] rfl ?_
          exact h
  | (_ + 3), _ => exact trivial
def R_X6_write (σ : sf_St) (r : Int32) (τ : sf_St) : Prop :=
  ∃ τ2 : sf_St, R_X6_settle σ τ2 ∧ (∃ τ4 : sf_St, R_X5_describe τ2 τ4 ∧ (r = (τ4 43 1) ∧ τ = τ4))
set_option maxHeartbeats 4000000 in
set_option maxRecDepth 100000 in
theorem c_X6_write {l : Launch} {D : va_G} {q : Nat → Nat} {dA : Nat → ClassId} {tv ta tb : Nat} (hq : sf_inj q KX) {σ τ : sf_St} {r : Int32} (h : R_X6_write σ  r τ) : sf_Mi l yX6_write wsX6_write ({ frames := 15, cells := 0, slots := 0, locals := 370 }) D vwCl q dA KX (sf_EX q tv ta tb) [.ref (q 0)] σ r τ := by
  refine sf_meti (cc := cX6_write) (maxL := 1) (ret := (some .int)) (own := RX6) (by decide +kernel) rfl rfl hq sf_EXk (Nat.le_of_ble_eq_true rfl) ?_
  intro p e s m args below meth c X
  have hT := X.2.2.2.1.2.1
  unfold R_X6_write at h
  refine sf_loc (lv' := [(0, .ref (q 0))]) [0] rfl ?_
  refine sf_aload_n (i := 0) (j := 0) X dX6_write_0 rfl rfl rfl ?_
  obtain ⟨τ2, hR1, h⟩ := h
  refine sf_callVv (As := []) (rest := []) (cv := (RX6, TX6, 11)) X rfl rfl (c_X6_settle hq hR1) (cwV 0 X.1.2.2.2.2 (sf_gV tw_411 tw_413 tw_3 tw_41 tw_414) rfl rfl rfl ⟨rfl, hd_X6_settle⟩ ⟨Nat.le_of_ble_eq_true rfl, Nat.le_of_ble_eq_true rfl⟩) rfl rfl (Nat.le_of_ble_eq_true rfl) dX6_write_1 rfl ?_
  refine sf_aload_n (i := 0) (j := 0) X dX6_write_4 rfl rfl rfl ?_
  refine sf_getR (C := RX6) (T := TX6) (N := 11) (ci := 6) (j := 7) (k' := 43) X (fun w h => sf_memc (inX6 w h)) rfl rfl (by decide) (X.1.2.2.2.2 _ (sf_memc tw_231)) (fun _ h9 => h9) rfl dX6_write_5 rfl ?_
  refine sf_aload_n (i := 0) (j := 0) X dX6_write_8 rfl rfl rfl ?_
  refine sf_getR (C := RX6) (T := TX6) (N := 11) (ci := 6) (j := 0) (k' := 1) X (fun w h => sf_memc (inX6 w h)) rfl rfl (by decide) (X.1.2.2.2.2 _ (sf_memc tw_224)) (fun _ h9 => h9) rfl dX6_write_9 rfl ?_
  refine sf_aload_n (i := 0) (j := 0) X dX6_write_12 rfl rfl rfl ?_
  refine sf_getR (C := RX6) (T := TX6) (N := 11) (ci := 6) (j := 1) (k' := 17) X (fun w h => sf_memc (inX6 w h)) rfl rfl (by decide) (X.1.2.2.2.2 _ (sf_memc tw_225)) (fun _ h9 => h9) rfl dX6_write_13 rfl ?_
  refine sf_aload_n (i := 0) (j := 0) X dX6_write_16 rfl rfl rfl ?_
  refine sf_getR (C := RX6) (T := TX6) (N := 11) (ci := 6) (j := 6) (k' := 40) X (fun w h => sf_memc (inX6 w h)) rfl rfl (by decide) (X.1.2.2.2.2 _ (sf_memc tw_230)) (fun _ h9 => h9) rfl dX6_write_17 rfl ?_
  obtain ⟨τ4, hR3, h⟩ := h
  refine sf_callVv (As := [.ref (q 1), .ref (q 17), .ref (q 40)]) (rest := []) (cv := (RX5, TX5, 2)) X rfl rfl (c_X5_describe hq hR3) (cwV 3 X.1.2.2.2.2 (sf_gV tw_556 tw_557 tw_558 tw_47 tw_559) rfl rfl rfl ⟨rfl, hd_X5_describe⟩ ⟨Nat.le_of_ble_eq_true rfl, Nat.le_of_ble_eq_true rfl⟩) rfl rfl (Nat.le_of_ble_eq_true rfl) dX6_write_20 rfl ?_
  refine sf_aload_n (i := 0) (j := 0) X dX6_write_23 rfl rfl rfl ?_
  refine sf_getR (C := RX6) (T := TX6) (N := 11) (ci := 6) (j := 7) (k' := 43) X (fun w h => sf_memc (inX6 w h)) rfl rfl (by decide) (X.1.2.2.2.2 _ (sf_memc tw_231)) (fun _ h9 => h9) rfl dX6_write_24 rfl ?_
  refine sf_getI (C := RX5) (T := TX5) (N := 2) (ci := 5) (j := 1) X (fun w h => sf_memc (inX5 w h)) rfl rfl (by decide) (X.1.2.2.2.2 _ (sf_memc tw_217)) (fun _ h9 => h9) rfl dX6_write_27 rfl ?_
  exact sf_reti X h dX6_write_30
def R_X6_at (σ : sf_St) (u0 : Int32) (r : Int32) (τ : sf_St) : Prop :=
  if u0 < (0 : Int32) then (r = (-1 : Int32) ∧ τ = σ) else (if (σ 43 1) ≤ u0 then (r = (-1 : Int32) ∧ τ = σ) else (vp_in u0 80 ∧ (r = (σ 44 (sf_ix u0)) ∧ τ = σ)))
set_option maxHeartbeats 4000000 in
set_option maxRecDepth 100000 in
theorem c_X6_at {l : Launch} {D : va_G} {q : Nat → Nat} {dA : Nat → ClassId} {tv ta tb : Nat} (hq : sf_inj q KX) {σ τ : sf_St} {u0 : Int32} {r : Int32} (h : R_X6_at σ u0 r τ) : sf_Mi l yX6_at wsX6_at ({ frames := 0, cells := 0, slots := 0, locals := 0 }) D vwCl q dA KX (sf_EX q tv ta tb) [.ref (q 0), .int u0] σ r τ := by
  refine sf_meti (cc := cX6_at) (maxL := 2) (ret := (some .int)) (own := RX6) (by decide +kernel) rfl rfl hq sf_EXk (Nat.le_of_ble_eq_true rfl) ?_
  intro p e s m args below meth c X
  have hT := X.2.2.2.1.2.1
  unfold R_X6_at at h
  refine sf_loc (lv' := [(0, .ref (q 0)), (1, .int u0)]) [0, 1] rfl ?_
  refine sf_iload_n (i := 1) (j := 1) X dX6_at_0 rfl rfl rfl ?_
  refine sf_if_lt (tgt := 27) X dX6_at_1 rfl rfl (fun c1 => ?_) (fun c1 => ?_)
  · have h := sf_ift c1 h
    refine sf_iconst (v := (-1)) X dX6_at_27 sf_ic_m1 rfl ?_
    exact sf_reti X h dX6_at_28
  · have h := sf_iff c1 h
    refine sf_iload_n (i := 1) (j := 1) X dX6_at_4 rfl rfl rfl ?_
    refine sf_aload_n (i := 0) (j := 0) X dX6_at_5 rfl rfl rfl ?_
    refine sf_getR (C := RX6) (T := TX6) (N := 11) (ci := 6) (j := 7) (k' := 43) X (fun w h => sf_memc (inX6 w h)) rfl rfl (by decide) (X.1.2.2.2.2 _ (sf_memc tw_231)) (fun _ h9 => h9) rfl dX6_at_6 rfl ?_
    refine sf_getI (C := RX5) (T := TX5) (N := 2) (ci := 5) (j := 1) X (fun w h => sf_memc (inX5 w h)) rfl rfl (by decide) (X.1.2.2.2.2 _ (sf_memc tw_217)) (fun _ h9 => h9) rfl dX6_at_9 rfl ?_
    refine sf_icmp_ge (tgt := 27) X dX6_at_12 rfl rfl (fun c2 => ?_) (fun c2 => ?_)
    · have h := sf_ift c2 h
      refine sf_iconst (v := (-1)) X dX6_at_27 sf_ic_m1 rfl ?_
      exact sf_reti X h dX6_at_28
    · have h := sf_iff c2 h
      refine sf_aload_n (i := 0) (j := 0) X dX6_at_15 rfl rfl rfl ?_
      refine sf_getR (C := RX6) (T := TX6) (N := 11) (ci := 6) (j := 7) (k' := 43) X (fun w h => sf_memc (inX6 w h)) rfl rfl (by decide) (X.1.2.2.2.2 _ (sf_memc tw_231)) (fun _ h9 => h9) rfl dX6_at_16 rfl ?_
      refine sf_getR (C := RX5) (T := TX5) (N := 2) (ci := 5) (j := 0) (k' := 44) X (fun w h => sf_memc (inX5 w h)) rfl rfl (by decide) (X.1.2.2.2.2 _ (sf_memc tw_215)) (fun _ h9 => h9) rfl dX6_at_19 rfl ?_
      refine sf_iload_n (i := 1) (j := 1) X dX6_at_22 rfl rfl rfl ?_
      obtain ⟨b3, h⟩ := h
      refine sf_cald X rfl b3 dX6_at_23 rfl ?_
      refine sf_goto (tgt := 28) X dX6_at_24 rfl ?_
      exact sf_reti X h dX6_at_28
