def R_X7_put (σ : sf_St) (u0 : Int32) (τ : sf_St) : Prop :=
  vp_in (σ 0 19) 128 ∧ (∀ τ2 : sf_St, τ2 = sf_up σ 13 (sf_ix (σ 0 19)) u0 → (∀ τ3 : sf_St, τ3 = sf_up τ2 0 19 ((τ2 0 19) + (1 : Int32)) → (τ = τ3)))
set_option maxHeartbeats 4000000 in
set_option maxRecDepth 100000 in
theorem c_X7_put {l : Launch} {D : va_G} {q : Nat → Nat} {dA : Nat → ClassId}  (hq : sf_inj q KM) {σ τ : sf_St} {u0 : Int32} (h : R_X7_put σ u0 τ) : sf_Mv l yX7_put wsX7_put ({ frames := 0, cells := 0, slots := 0, locals := 0 }) D vwCl q dA KM sf_EM [.ref (q 0), .int u0] σ τ := by
  refine sf_metv (cc := cX7_put) (maxL := 2) (ret := none) (own := RX7) (by decide +kernel) rfl rfl hq sf_EMk (Nat.le_of_ble_eq_true rfl) ?_
  intro p e s m args below meth c X
  unfold R_X7_put at h
  refine sf_loc (lv' := [(0, .ref (q 0)), (1, .int u0)]) [0, 1] rfl ?_
  refine sf_aload_n (i := 0) (j := 0) X dX7_put_0 rfl rfl rfl ?_
  refine sf_getR (C := RX7) (T := TX7) (N := 23) (ci := 7) (j := 20) (k' := 13) X (fun w h => sf_memc (inX7 w h)) rfl rfl (by decide) (X.1.2.2.2.2 _ (sf_memc tw_651)) (fun _ h9 => h9) rfl dX7_put_1 rfl ?_
  refine sf_aload_n (i := 0) (j := 0) X dX7_put_4 rfl rfl rfl ?_
  refine sf_getI (C := RX7) (T := TX7) (N := 23) (ci := 7) (j := 19) X (fun w h => sf_memc (inX7 w h)) rfl rfl (by decide) (X.1.2.2.2.2 _ (sf_memc tw_650)) (fun _ h9 => h9) rfl dX7_put_5 rfl ?_
  refine sf_iload_n (i := 1) (j := 1) X dX7_put_8 rfl rfl rfl ?_
  obtain ⟨b1, h⟩ := h
  refine sf_iast X rfl b1 dX7_put_9 rfl (fun τ2 hτ2 => ?_)
  have h := h τ2 hτ2
  refine sf_aload_n (i := 0) (j := 0) X dX7_put_10 rfl rfl rfl ?_
  refine sf_dup X dX7_put_11 rfl rfl ?_
  refine sf_getI (C := RX7) (T := TX7) (N := 23) (ci := 7) (j := 19) X (fun w h => sf_memc (inX7 w h)) rfl rfl (by decide) (X.1.2.2.2.2 _ (sf_memc tw_650)) (fun _ h9 => h9) rfl dX7_put_12 rfl ?_
  refine sf_iconst (v := 1) X dX7_put_15 sf_ic_1 rfl ?_
  refine sf_iadd X dX7_put_16 rfl ?_
  refine sf_putI (C := RX7) (T := TX7) (N := 23) (ci := 7) (j := 19) (ty := .int) X (fun w h => sf_memc (inX7 w h)) rfl rfl (by decide) (X.1.2.2.2.2 _ (sf_memc tw_650)) (fun _ h9 => h9) tyX7 tyX7_ok nmX7 rfl (by decide +kernel) rfl rfl rfl dX7_put_17 rfl (fun τ3 hτ3 => ?_)
  have h := h τ3 hτ3
  exact sf_retv X h dX7_put_20
def R_X7_putElement (σ : sf_St) (u0 : Int32) (τ : sf_St) : Prop :=
  if u0 = (0 : Int32) then (∃ τ3 : sf_St, R_X7_put σ (67 : Int32) τ3 ∧ (if u0 = (4 : Int32) then (∃ τ6 : sf_St, R_X7_put τ3 (108 : Int32) τ6 ∧ (τ = τ6)) else (τ = τ3))) else (if u0 = (4 : Int32) then (∃ τ32 : sf_St, R_X7_put σ (67 : Int32) τ32 ∧ (if u0 = (4 : Int32) then (∃ τ35 : sf_St, R_X7_put τ32 (108 : Int32) τ35 ∧ (τ = τ35)) else (τ = τ32))) else (if u0 = (1 : Int32) then (∃ τ27 : sf_St, R_X7_put σ (78 : Int32) τ27 ∧ (if u0 = (4 : Int32) then (∃ τ30 : sf_St, R_X7_put τ27 (108 : Int32) τ30 ∧ (τ = τ30)) else (τ = τ27))) else (if u0 = (2 : Int32) then (∃ τ22 : sf_St, R_X7_put σ (79 : Int32) τ22 ∧ (if u0 = (4 : Int32) then (∃ τ25 : sf_St, R_X7_put τ22 (108 : Int32) τ25 ∧ (τ = τ25)) else (τ = τ22))) else (if u0 = (3 : Int32) then (∃ τ17 : sf_St, R_X7_put σ (70 : Int32) τ17 ∧ (if u0 = (4 : Int32) then (∃ τ20 : sf_St, R_X7_put τ17 (108 : Int32) τ20 ∧ (τ = τ20)) else (τ = τ17))) else (∃ τ12 : sf_St, R_X7_put σ (83 : Int32) τ12 ∧ (if u0 = (4 : Int32) then (∃ τ15 : sf_St, R_X7_put τ12 (108 : Int32) τ15 ∧ (τ = τ15)) else (τ = τ12)))))))
set_option maxHeartbeats 4000000 in
set_option maxRecDepth 100000 in
theorem c_X7_putElement {l : Launch} {D : va_G} {q : Nat → Nat} {dA : Nat → ClassId}  (hq : sf_inj q KM) {σ τ : sf_St} {u0 : Int32} (h : R_X7_putElement σ u0 τ) : sf_Mv l yX7_putElement wsX7_putElement ({ frames := 1, cells := 0, slots := 0, locals := 21 }) D vwCl q dA KM sf_EM [.ref (q 0), .int u0] σ τ := by
  refine sf_metv (cc := cX7_putElement) (maxL := 2) (ret := none) (own := RX7) (by decide +kernel) rfl rfl hq sf_EMk (Nat.le_of_ble_eq_true rfl) ?_
  intro p e s m args below meth c X
  unfold R_X7_putElement at h
  refine sf_loc (lv' := [(0, .ref (q 0)), (1, .int u0)]) [0, 1] rfl ?_
  refine sf_aload_n (i := 0) (j := 0) X dX7_putElement_0 rfl rfl rfl ?_
  refine sf_iload_n (i := 1) (j := 1) X dX7_putElement_1 rfl rfl rfl ?_
  refine sf_if_eq (tgt := 10) X dX7_putElement_2 rfl rfl (fun c1 => ?_) (fun c1 => ?_)
  · have h := sf_ift c1 h
    refine sf_bipush (v := 67) X dX7_putElement_10 sf_bc_67 rfl ?_
    refine sf_goto (tgt := 47) X dX7_putElement_12 rfl ?_
    obtain ⟨τ3, hR2, h⟩ := h
    refine sf_callVv (As := [.int (67 : Int32)]) (rest := []) (cv := (RX7, TX7, 23)) X rfl rfl (c_X7_put hq hR2) (cwV 1 X.1.2.2.2.2 (sf_gV tw_868 tw_870 tw_38 tw_48 tw_871) rfl rfl rfl ⟨rfl, hd_X7_put⟩ ⟨Nat.le_of_ble_eq_true rfl, Nat.le_of_ble_eq_true rfl⟩) rfl rfl (Nat.le_of_ble_eq_true rfl) dX7_putElement_47 rfl ?_
    refine sf_iload_n (i := 1) (j := 1) X dX7_putElement_50 rfl rfl rfl ?_
    refine sf_iconst (v := 4) X dX7_putElement_51 sf_ic_4 rfl ?_
    refine sf_icmp_ne (tgt := 61) X dX7_putElement_52 rfl rfl (fun c4 => ?_) (fun c4 => ?_)
    · have h := sf_iff c4 h
      exact sf_retv X h dX7_putElement_61
    · have h := sf_ift c4 h
      refine sf_aload_n (i := 0) (j := 0) X dX7_putElement_55 rfl rfl rfl ?_
      refine sf_bipush (v := 108) X dX7_putElement_56 sf_bc_108 rfl ?_
      obtain ⟨τ6, hR5, h⟩ := h
      refine sf_callVv (As := [.int (108 : Int32)]) (rest := []) (cv := (RX7, TX7, 23)) X rfl rfl (c_X7_put hq hR5) (cwV 1 X.1.2.2.2.2 (sf_gV tw_868 tw_870 tw_38 tw_48 tw_871) rfl rfl rfl ⟨rfl, hd_X7_put⟩ ⟨Nat.le_of_ble_eq_true rfl, Nat.le_of_ble_eq_true rfl⟩) rfl rfl (Nat.le_of_ble_eq_true rfl) dX7_putElement_58 rfl ?_
      exact sf_retv X h dX7_putElement_61
  · have h := sf_iff c1 h
    refine sf_iload_n (i := 1) (j := 1) X dX7_putElement_5 rfl rfl rfl ?_
    refine sf_iconst (v := 4) X dX7_putElement_6 sf_ic_4 rfl ?_
    refine sf_icmp_ne (tgt := 15) X dX7_putElement_7 rfl rfl (fun c7 => ?_) (fun c7 => ?_)
    · have h := sf_iff c7 h
      refine sf_iload_n (i := 1) (j := 1) X dX7_putElement_15 rfl rfl rfl ?_
      refine sf_iconst (v := 1) X dX7_putElement_16 sf_ic_1 rfl ?_
      refine sf_icmp_ne (tgt := 25) X dX7_putElement_17 rfl rfl (fun c8 => ?_) (fun c8 => ?_)
      · have h := sf_iff c8 h
        refine sf_iload_n (i := 1) (j := 1) X dX7_putElement_25 rfl rfl rfl ?_
        refine sf_iconst (v := 2) X dX7_putElement_26 sf_ic_2 rfl ?_
        refine sf_icmp_ne (tgt := 35) X dX7_putElement_27 rfl rfl (fun c9 => ?_) (fun c9 => ?_)
        · have h := sf_iff c9 h
          refine sf_iload_n (i := 1) (j := 1) X dX7_putElement_35 rfl rfl rfl ?_
          refine sf_iconst (v := 3) X dX7_putElement_36 sf_ic_3 rfl ?_
          refine sf_icmp_ne (tgt := 45) X dX7_putElement_37 rfl rfl (fun c10 => ?_) (fun c10 => ?_)
          · have h := sf_iff c10 h
            refine sf_bipush (v := 83) X dX7_putElement_45 sf_bc_83 rfl ?_
            obtain ⟨τ12, hR11, h⟩ := h
            refine sf_callVv (As := [.int (83 : Int32)]) (rest := []) (cv := (RX7, TX7, 23)) X rfl rfl (c_X7_put hq hR11) (cwV 1 X.1.2.2.2.2 (sf_gV tw_868 tw_870 tw_38 tw_48 tw_871) rfl rfl rfl ⟨rfl, hd_X7_put⟩ ⟨Nat.le_of_ble_eq_true rfl, Nat.le_of_ble_eq_true rfl⟩) rfl rfl (Nat.le_of_ble_eq_true rfl) dX7_putElement_47 rfl ?_
            refine sf_iload_n (i := 1) (j := 1) X dX7_putElement_50 rfl rfl rfl ?_
            refine sf_iconst (v := 4) X dX7_putElement_51 sf_ic_4 rfl ?_
            refine sf_icmp_ne (tgt := 61) X dX7_putElement_52 rfl rfl (fun c13 => ?_) (fun c13 => ?_)
            · have h := sf_iff c13 h
              exact sf_retv X h dX7_putElement_61
            · have h := sf_ift c13 h
              refine sf_aload_n (i := 0) (j := 0) X dX7_putElement_55 rfl rfl rfl ?_
              refine sf_bipush (v := 108) X dX7_putElement_56 sf_bc_108 rfl ?_
              obtain ⟨τ15, hR14, h⟩ := h
              refine sf_callVv (As := [.int (108 : Int32)]) (rest := []) (cv := (RX7, TX7, 23)) X rfl rfl (c_X7_put hq hR14) (cwV 1 X.1.2.2.2.2 (sf_gV tw_868 tw_870 tw_38 tw_48 tw_871) rfl rfl rfl ⟨rfl, hd_X7_put⟩ ⟨Nat.le_of_ble_eq_true rfl, Nat.le_of_ble_eq_true rfl⟩) rfl rfl (Nat.le_of_ble_eq_true rfl) dX7_putElement_58 rfl ?_
              exact sf_retv X h dX7_putElement_61
          · have h := sf_ift c10 h
            refine sf_bipush (v := 70) X dX7_putElement_40 sf_bc_70 rfl ?_
            refine sf_goto (tgt := 47) X dX7_putElement_42 rfl ?_
            obtain ⟨τ17, hR16, h⟩ := h
            refine sf_callVv (As := [.int (70 : Int32)]) (rest := []) (cv := (RX7, TX7, 23)) X rfl rfl (c_X7_put hq hR16) (cwV 1 X.1.2.2.2.2 (sf_gV tw_868 tw_870 tw_38 tw_48 tw_871) rfl rfl rfl ⟨rfl, hd_X7_put⟩ ⟨Nat.le_of_ble_eq_true rfl, Nat.le_of_ble_eq_true rfl⟩) rfl rfl (Nat.le_of_ble_eq_true rfl) dX7_putElement_47 rfl ?_
            refine sf_iload_n (i := 1) (j := 1) X dX7_putElement_50 rfl rfl rfl ?_
            refine sf_iconst (v := 4) X dX7_putElement_51 sf_ic_4 rfl ?_
            refine sf_icmp_ne (tgt := 61) X dX7_putElement_52 rfl rfl (fun c18 => ?_) (fun c18 => ?_)
            · have h := sf_iff c18 h
              exact sf_retv X h dX7_putElement_61
            · have h := sf_ift c18 h
              refine sf_aload_n (i := 0) (j := 0) X dX7_putElement_55 rfl rfl rfl ?_
              refine sf_bipush (v := 108) X dX7_putElement_56 sf_bc_108 rfl ?_
              obtain ⟨τ20, hR19, h⟩ := h
              refine sf_callVv (As := [.int (108 : Int32)]) (rest := []) (cv := (RX7, TX7, 23)) X rfl rfl (c_X7_put hq hR19) (cwV 1 X.1.2.2.2.2 (sf_gV tw_868 tw_870 tw_38 tw_48 tw_871) rfl rfl rfl ⟨rfl, hd_X7_put⟩ ⟨Nat.le_of_ble_eq_true rfl, Nat.le_of_ble_eq_true rfl⟩) rfl rfl (Nat.le_of_ble_eq_true rfl) dX7_putElement_58 rfl ?_
              exact sf_retv X h dX7_putElement_61
        · have h := sf_ift c9 h
          refine sf_bipush (v := 79) X dX7_putElement_30 sf_bc_79 rfl ?_
          refine sf_goto (tgt := 47) X dX7_putElement_32 rfl ?_
          obtain ⟨τ22, hR21, h⟩ := h
          refine sf_callVv (As := [.int (79 : Int32)]) (rest := []) (cv := (RX7, TX7, 23)) X rfl rfl (c_X7_put hq hR21) (cwV 1 X.1.2.2.2.2 (sf_gV tw_868 tw_870 tw_38 tw_48 tw_871) rfl rfl rfl ⟨rfl, hd_X7_put⟩ ⟨Nat.le_of_ble_eq_true rfl, Nat.le_of_ble_eq_true rfl⟩) rfl rfl (Nat.le_of_ble_eq_true rfl) dX7_putElement_47 rfl ?_
          refine sf_iload_n (i := 1) (j := 1) X dX7_putElement_50 rfl rfl rfl ?_
          refine sf_iconst (v := 4) X dX7_putElement_51 sf_ic_4 rfl ?_
          refine sf_icmp_ne (tgt := 61) X dX7_putElement_52 rfl rfl (fun c23 => ?_) (fun c23 => ?_)
          · have h := sf_iff c23 h
            exact sf_retv X h dX7_putElement_61
          · have h := sf_ift c23 h
            refine sf_aload_n (i := 0) (j := 0) X dX7_putElement_55 rfl rfl rfl ?_
            refine sf_bipush (v := 108) X dX7_putElement_56 sf_bc_108 rfl ?_
            obtain ⟨τ25, hR24, h⟩ := h
            refine sf_callVv (As := [.int (108 : Int32)]) (rest := []) (cv := (RX7, TX7, 23)) X rfl rfl (c_X7_put hq hR24) (cwV 1 X.1.2.2.2.2 (sf_gV tw_868 tw_870 tw_38 tw_48 tw_871) rfl rfl rfl ⟨rfl, hd_X7_put⟩ ⟨Nat.le_of_ble_eq_true rfl, Nat.le_of_ble_eq_true rfl⟩) rfl rfl (Nat.le_of_ble_eq_true rfl) dX7_putElement_58 rfl ?_
            exact sf_retv X h dX7_putElement_61
      · have h := sf_ift c8 h
        refine sf_bipush (v := 78) X dX7_putElement_20 sf_bc_78 rfl ?_
        refine sf_goto (tgt := 47) X dX7_putElement_22 rfl ?_
        obtain ⟨τ27, hR26, h⟩ := h
        refine sf_callVv (As := [.int (78 : Int32)]) (rest := []) (cv := (RX7, TX7, 23)) X rfl rfl (c_X7_put hq hR26) (cwV 1 X.1.2.2.2.2 (sf_gV tw_868 tw_870 tw_38 tw_48 tw_871) rfl rfl rfl ⟨rfl, hd_X7_put⟩ ⟨Nat.le_of_ble_eq_true rfl, Nat.le_of_ble_eq_true rfl⟩) rfl rfl (Nat.le_of_ble_eq_true rfl) dX7_putElement_47 rfl ?_
        refine sf_iload_n (i := 1) (j := 1) X dX7_putElement_50 rfl rfl rfl ?_
        refine sf_iconst (v := 4) X dX7_putElement_51 sf_ic_4 rfl ?_
        refine sf_icmp_ne (tgt := 61) X dX7_putElement_52 rfl rfl (fun c28 => ?_) (fun c28 => ?_)
        · have h := sf_iff c28 h
          exact sf_retv X h dX7_putElement_61
        · have h := sf_ift c28 h
          refine sf_aload_n (i := 0) (j := 0) X dX7_putElement_55 rfl rfl rfl ?_
          refine sf_bipush (v := 108) X dX7_putElement_56 sf_bc_108 rfl ?_
          obtain ⟨τ30, hR29, h⟩ := h
          refine sf_callVv (As := [.int (108 : Int32)]) (rest := []) (cv := (RX7, TX7, 23)) X rfl rfl (c_X7_put hq hR29) (cwV 1 X.1.2.2.2.2 (sf_gV tw_868 tw_870 tw_38 tw_48 tw_871) rfl rfl rfl ⟨rfl, hd_X7_put⟩ ⟨Nat.le_of_ble_eq_true rfl, Nat.le_of_ble_eq_true rfl⟩) rfl rfl (Nat.le_of_ble_eq_true rfl) dX7_putElement_58 rfl ?_
          exact sf_retv X h dX7_putElement_61
    · have h := sf_ift c7 h
      refine sf_bipush (v := 67) X dX7_putElement_10 sf_bc_67 rfl ?_
      refine sf_goto (tgt := 47) X dX7_putElement_12 rfl ?_
      obtain ⟨τ32, hR31, h⟩ := h
      refine sf_callVv (As := [.int (67 : Int32)]) (rest := []) (cv := (RX7, TX7, 23)) X rfl rfl (c_X7_put hq hR31) (cwV 1 X.1.2.2.2.2 (sf_gV tw_868 tw_870 tw_38 tw_48 tw_871) rfl rfl rfl ⟨rfl, hd_X7_put⟩ ⟨Nat.le_of_ble_eq_true rfl, Nat.le_of_ble_eq_true rfl⟩) rfl rfl (Nat.le_of_ble_eq_true rfl) dX7_putElement_47 rfl ?_
      refine sf_iload_n (i := 1) (j := 1) X dX7_putElement_50 rfl rfl rfl ?_
      refine sf_iconst (v := 4) X dX7_putElement_51 sf_ic_4 rfl ?_
      refine sf_icmp_ne (tgt := 61) X dX7_putElement_52 rfl rfl (fun c33 => ?_) (fun c33 => ?_)
      · have h := sf_iff c33 h
        exact sf_retv X h dX7_putElement_61
      · have h := sf_ift c33 h
        refine sf_aload_n (i := 0) (j := 0) X dX7_putElement_55 rfl rfl rfl ?_
        refine sf_bipush (v := 108) X dX7_putElement_56 sf_bc_108 rfl ?_
        obtain ⟨τ35, hR34, h⟩ := h
        refine sf_callVv (As := [.int (108 : Int32)]) (rest := []) (cv := (RX7, TX7, 23)) X rfl rfl (c_X7_put hq hR34) (cwV 1 X.1.2.2.2.2 (sf_gV tw_868 tw_870 tw_38 tw_48 tw_871) rfl rfl rfl ⟨rfl, hd_X7_put⟩ ⟨Nat.le_of_ble_eq_true rfl, Nat.le_of_ble_eq_true rfl⟩) rfl rfl (Nat.le_of_ble_eq_true rfl) dX7_putElement_58 rfl ?_
        exact sf_retv X h dX7_putElement_61
def R_X7_putBond (σ : sf_St) (u0 u1 : Int32) (τ : sf_St) : Prop :=
  ∃ τ2 : sf_St, R_X7_put σ (40 : Int32) τ2 ∧ (∃ τ4 : sf_St, R_X7_put τ2 ((48 : Int32) + u1) τ4 ∧ (vp_in u0 9 ∧ (if (τ4 6 (sf_ix u0)) = (2 : Int32) then (∃ τ16 : sf_St, R_X7_put τ4 (61 : Int32) τ16 ∧ (∃ (r19 : Int32) (τ18 : sf_St), R_X7_hingeSense τ16 u0 r19 τ18 ∧ (if r19 = (0 : Int32) then (vp_in u0 9 ∧ (if (τ18 6 (sf_ix u0)) = (3 : Int32) then (∃ τ26 : sf_St, R_X7_put τ18 (35 : Int32) τ26 ∧ (∃ τ28 : sf_St, R_X7_put τ26 (41 : Int32) τ28 ∧ (τ = τ28))) else (∃ τ24 : sf_St, R_X7_put τ18 (41 : Int32) τ24 ∧ (τ = τ24)))) else (if r19 ≤ (0 : Int32) then (∃ τ31 : sf_St, R_X7_put τ18 (116 : Int32) τ31 ∧ (vp_in u0 9 ∧ (if (τ31 6 (sf_ix u0)) = (3 : Int32) then (∃ τ37 : sf_St, R_X7_put τ31 (35 : Int32) τ37 ∧ (∃ τ39 : sf_St, R_X7_put τ37 (41 : Int32) τ39 ∧ (τ = τ39))) else (∃ τ35 : sf_St, R_X7_put τ31 (41 : Int32) τ35 ∧ (τ = τ35))))) else (∃ τ41 : sf_St, R_X7_put τ18 (99 : Int32) τ41 ∧ (vp_in u0 9 ∧ (if (τ41 6 (sf_ix u0)) = (3 : Int32) then (∃ τ47 : sf_St, R_X7_put τ41 (35 : Int32) τ47 ∧ (∃ τ49 : sf_St, R_X7_put τ47 (41 : Int32) τ49 ∧ (τ = τ49))) else (∃ τ45 : sf_St, R_X7_put τ41 (41 : Int32) τ45 ∧ (τ = τ45))))))))) else (vp_in u0 9 ∧ (if (τ4 6 (sf_ix u0)) = (3 : Int32) then (∃ τ12 : sf_St, R_X7_put τ4 (35 : Int32) τ12 ∧ (∃ τ14 : sf_St, R_X7_put τ12 (41 : Int32) τ14 ∧ (τ = τ14))) else (∃ τ10 : sf_St, R_X7_put τ4 (41 : Int32) τ10 ∧ (τ = τ10)))))))
set_option maxHeartbeats 4000000 in
set_option maxRecDepth 100000 in
theorem c_X7_putBond {l : Launch} {D : va_G} {q : Nat → Nat} {dA : Nat → ClassId}  (hq : sf_inj q KM) {σ τ : sf_St} {u0 u1 : Int32} (h : R_X7_putBond σ u0 u1 τ) : sf_Mv l yX7_putBond wsX7_putBond ({ frames := 4, cells := 0, slots := 0, locals := 97 }) D vwCl q dA KM sf_EM [.ref (q 0), .int u0, .int u1] σ τ := by
  refine sf_metv (cc := cX7_putBond) (maxL := 4) (ret := none) (own := RX7) (by decide +kernel) rfl rfl hq sf_EMk (Nat.le_of_ble_eq_true rfl) ?_
  intro p e s m args below meth c X
  unfold R_X7_putBond at h
  refine sf_loc (lv' := [(0, .ref (q 0)), (1, .int u0), (2, .int u1)]) [0, 1, 2] rfl ?_
  refine sf_aload_n (i := 0) (j := 0) X dX7_putBond_0 rfl rfl rfl ?_
  refine sf_bipush (v := 40) X dX7_putBond_1 sf_bc_40 rfl ?_
  obtain ⟨τ2, hR1, h⟩ := h
  refine sf_callVv (As := [.int (40 : Int32)]) (rest := []) (cv := (RX7, TX7, 23)) X rfl rfl (c_X7_put hq hR1) (cwV 1 X.1.2.2.2.2 (sf_gV tw_868 tw_870 tw_38 tw_48 tw_871) rfl rfl rfl ⟨rfl, hd_X7_put⟩ ⟨Nat.le_of_ble_eq_true rfl, Nat.le_of_ble_eq_true rfl⟩) rfl rfl (Nat.le_of_ble_eq_true rfl) dX7_putBond_3 rfl ?_
  refine sf_aload_n (i := 0) (j := 0) X dX7_putBond_6 rfl rfl rfl ?_
  refine sf_bipush (v := 48) X dX7_putBond_7 sf_bc_48 rfl ?_
  refine sf_iload_n (i := 2) (j := 2) X dX7_putBond_9 rfl rfl rfl ?_
  refine sf_iadd X dX7_putBond_10 rfl ?_
  obtain ⟨τ4, hR3, h⟩ := h
  refine sf_callVv (As := [.int ((48 : Int32) + u1)]) (rest := []) (cv := (RX7, TX7, 23)) X rfl rfl (c_X7_put hq hR3) (cwV 1 X.1.2.2.2.2 (sf_gV tw_868 tw_870 tw_38 tw_48 tw_871) rfl rfl rfl ⟨rfl, hd_X7_put⟩ ⟨Nat.le_of_ble_eq_true rfl, Nat.le_of_ble_eq_true rfl⟩) rfl rfl (Nat.le_of_ble_eq_true rfl) dX7_putBond_11 rfl ?_
  refine sf_aload_n (i := 0) (j := 0) X dX7_putBond_14 rfl rfl rfl ?_
  refine sf_getR (C := RX7) (T := TX7) (N := 23) (ci := 7) (j := 7) (k' := 6) X (fun w h => sf_memc (inX7 w h)) rfl rfl (by decide) (X.1.2.2.2.2 _ (sf_memc tw_638)) (fun _ h9 => h9) rfl dX7_putBond_15 rfl ?_
  refine sf_iload_n (i := 1) (j := 1) X dX7_putBond_18 rfl rfl rfl ?_
  obtain ⟨b5, h⟩ := h
  refine sf_iald X rfl b5 dX7_putBond_19 rfl ?_
  refine sf_iconst (v := 2) X dX7_putBond_20 sf_ic_2 rfl ?_
  refine sf_icmp_ne (tgt := 55) X dX7_putBond_21 rfl rfl (fun c6 => ?_) (fun c6 => ?_)
  · have h := sf_iff c6 h
    refine sf_aload_n (i := 0) (j := 0) X dX7_putBond_55 rfl rfl rfl ?_
    refine sf_getR (C := RX7) (T := TX7) (N := 23) (ci := 7) (j := 7) (k' := 6) X (fun w h => sf_memc (inX7 w h)) rfl rfl (by decide) (X.1.2.2.2.2 _ (sf_memc tw_638)) (fun _ h9 => h9) rfl dX7_putBond_56 rfl ?_
    refine sf_iload_n (i := 1) (j := 1) X dX7_putBond_59 rfl rfl rfl ?_
    obtain ⟨b7, h⟩ := h
    refine sf_iald X rfl b7 dX7_putBond_60 rfl ?_
    refine sf_iconst (v := 3) X dX7_putBond_61 sf_ic_3 rfl ?_
    refine sf_icmp_ne (tgt := 71) X dX7_putBond_62 rfl rfl (fun c8 => ?_) (fun c8 => ?_)
    · have h := sf_iff c8 h
      refine sf_aload_n (i := 0) (j := 0) X dX7_putBond_71 rfl rfl rfl ?_
      refine sf_bipush (v := 41) X dX7_putBond_72 sf_bc_41 rfl ?_
      obtain ⟨τ10, hR9, h⟩ := h
      refine sf_callVv (As := [.int (41 : Int32)]) (rest := []) (cv := (RX7, TX7, 23)) X rfl rfl (c_X7_put hq hR9) (cwV 1 X.1.2.2.2.2 (sf_gV tw_868 tw_870 tw_38 tw_48 tw_871) rfl rfl rfl ⟨rfl, hd_X7_put⟩ ⟨Nat.le_of_ble_eq_true rfl, Nat.le_of_ble_eq_true rfl⟩) rfl rfl (Nat.le_of_ble_eq_true rfl) dX7_putBond_74 rfl ?_
      exact sf_retv X h dX7_putBond_77
    · have h := sf_ift c8 h
      refine sf_aload_n (i := 0) (j := 0) X dX7_putBond_65 rfl rfl rfl ?_
      refine sf_bipush (v := 35) X dX7_putBond_66 sf_bc_35 rfl ?_
      obtain ⟨τ12, hR11, h⟩ := h
      refine sf_callVv (As := [.int (35 : Int32)]) (rest := []) (cv := (RX7, TX7, 23)) X rfl rfl (c_X7_put hq hR11) (cwV 1 X.1.2.2.2.2 (sf_gV tw_868 tw_870 tw_38 tw_48 tw_871) rfl rfl rfl ⟨rfl, hd_X7_put⟩ ⟨Nat.le_of_ble_eq_true rfl, Nat.le_of_ble_eq_true rfl⟩) rfl rfl (Nat.le_of_ble_eq_true rfl) dX7_putBond_68 rfl ?_
      refine sf_aload_n (i := 0) (j := 0) X dX7_putBond_71 rfl rfl rfl ?_
      refine sf_bipush (v := 41) X dX7_putBond_72 sf_bc_41 rfl ?_
      obtain ⟨τ14, hR13, h⟩ := h
      refine sf_callVv (As := [.int (41 : Int32)]) (rest := []) (cv := (RX7, TX7, 23)) X rfl rfl (c_X7_put hq hR13) (cwV 1 X.1.2.2.2.2 (sf_gV tw_868 tw_870 tw_38 tw_48 tw_871) rfl rfl rfl ⟨rfl, hd_X7_put⟩ ⟨Nat.le_of_ble_eq_true rfl, Nat.le_of_ble_eq_true rfl⟩) rfl rfl (Nat.le_of_ble_eq_true rfl) dX7_putBond_74 rfl ?_
      exact sf_retv X h dX7_putBond_77
  · have h := sf_ift c6 h
    refine sf_aload_n (i := 0) (j := 0) X dX7_putBond_24 rfl rfl rfl ?_
    refine sf_bipush (v := 61) X dX7_putBond_25 sf_bc_61 rfl ?_
    obtain ⟨τ16, hR15, h⟩ := h
    refine sf_callVv (As := [.int (61 : Int32)]) (rest := []) (cv := (RX7, TX7, 23)) X rfl rfl (c_X7_put hq hR15) (cwV 1 X.1.2.2.2.2 (sf_gV tw_868 tw_870 tw_38 tw_48 tw_871) rfl rfl rfl ⟨rfl, hd_X7_put⟩ ⟨Nat.le_of_ble_eq_true rfl, Nat.le_of_ble_eq_true rfl⟩) rfl rfl (Nat.le_of_ble_eq_true rfl) dX7_putBond_27 rfl ?_
    refine sf_aload_n (i := 0) (j := 0) X dX7_putBond_30 rfl rfl rfl ?_
    refine sf_iload_n (i := 1) (j := 1) X dX7_putBond_31 rfl rfl rfl ?_
    obtain ⟨r19, τ18, hR17, h⟩ := h
    refine sf_callVi (As := [.int u0]) (rest := []) (cv := (RX7, TX7, 23)) X rfl rfl (c_X7_hingeSense hq hR17) (cwV 1 X.1.2.2.2.2 (sf_gV tw_782 tw_784 tw_24 tw_48 tw_785) rfl rfl rfl ⟨rfl, hd_X7_hingeSense⟩ ⟨Nat.le_of_ble_eq_true rfl, Nat.le_of_ble_eq_true rfl⟩) rfl rfl (Nat.le_of_ble_eq_true rfl) dX7_putBond_32 rfl ?_
    refine sf_istore_n (i := 3) (lv' := [(3, .int r19), (0, .ref (q 0)), (1, .int u0), (2, .int u1)]) X dX7_putBond_35 rfl (by decide) rfl rfl ?_
    refine sf_iload_n (i := 3) (j := 0) X dX7_putBond_36 rfl rfl rfl ?_
    refine sf_if_eq (tgt := 55) X dX7_putBond_37 rfl rfl (fun c20 => ?_) (fun c20 => ?_)
    · have h := sf_ift c20 h
      refine sf_aload_n (i := 0) (j := 1) X dX7_putBond_55 rfl rfl rfl ?_
      refine sf_getR (C := RX7) (T := TX7) (N := 23) (ci := 7) (j := 7) (k' := 6) X (fun w h => sf_memc (inX7 w h)) rfl rfl (by decide) (X.1.2.2.2.2 _ (sf_memc tw_638)) (fun _ h9 => h9) rfl dX7_putBond_56 rfl ?_
      refine sf_iload_n (i := 1) (j := 2) X dX7_putBond_59 rfl rfl rfl ?_
      obtain ⟨b21, h⟩ := h
      refine sf_iald X rfl b21 dX7_putBond_60 rfl ?_
      refine sf_iconst (v := 3) X dX7_putBond_61 sf_ic_3 rfl ?_
      refine sf_icmp_ne (tgt := 71) X dX7_putBond_62 rfl rfl (fun c22 => ?_) (fun c22 => ?_)
      · have h := sf_iff c22 h
        refine sf_aload_n (i := 0) (j := 1) X dX7_putBond_71 rfl rfl rfl ?_
        refine sf_bipush (v := 41) X dX7_putBond_72 sf_bc_41 rfl ?_
        obtain ⟨τ24, hR23, h⟩ := h
        refine sf_callVv (As := [.int (41 : Int32)]) (rest := []) (cv := (RX7, TX7, 23)) X rfl rfl (c_X7_put hq hR23) (cwV 1 X.1.2.2.2.2 (sf_gV tw_868 tw_870 tw_38 tw_48 tw_871) rfl rfl rfl ⟨rfl, hd_X7_put⟩ ⟨Nat.le_of_ble_eq_true rfl, Nat.le_of_ble_eq_true rfl⟩) rfl rfl (Nat.le_of_ble_eq_true rfl) dX7_putBond_74 rfl ?_
        exact sf_retv X h dX7_putBond_77
      · have h := sf_ift c22 h
        refine sf_aload_n (i := 0) (j := 1) X dX7_putBond_65 rfl rfl rfl ?_
        refine sf_bipush (v := 35) X dX7_putBond_66 sf_bc_35 rfl ?_
        obtain ⟨τ26, hR25, h⟩ := h
        refine sf_callVv (As := [.int (35 : Int32)]) (rest := []) (cv := (RX7, TX7, 23)) X rfl rfl (c_X7_put hq hR25) (cwV 1 X.1.2.2.2.2 (sf_gV tw_868 tw_870 tw_38 tw_48 tw_871) rfl rfl rfl ⟨rfl, hd_X7_put⟩ ⟨Nat.le_of_ble_eq_true rfl, Nat.le_of_ble_eq_true rfl⟩) rfl rfl (Nat.le_of_ble_eq_true rfl) dX7_putBond_68 rfl ?_
        refine sf_aload_n (i := 0) (j := 1) X dX7_putBond_71 rfl rfl rfl ?_
        refine sf_bipush (v := 41) X dX7_putBond_72 sf_bc_41 rfl ?_
        obtain ⟨τ28, hR27, h⟩ := h
        refine sf_callVv (As := [.int (41 : Int32)]) (rest := []) (cv := (RX7, TX7, 23)) X rfl rfl (c_X7_put hq hR27) (cwV 1 X.1.2.2.2.2 (sf_gV tw_868 tw_870 tw_38 tw_48 tw_871) rfl rfl rfl ⟨rfl, hd_X7_put⟩ ⟨Nat.le_of_ble_eq_true rfl, Nat.le_of_ble_eq_true rfl⟩) rfl rfl (Nat.le_of_ble_eq_true rfl) dX7_putBond_74 rfl ?_
        exact sf_retv X h dX7_putBond_77
    · have h := sf_iff c20 h
      refine sf_aload_n (i := 0) (j := 1) X dX7_putBond_40 rfl rfl rfl ?_
      refine sf_iload_n (i := 3) (j := 0) X dX7_putBond_41 rfl rfl rfl ?_
      refine sf_if_le (tgt := 50) X dX7_putBond_42 rfl rfl (fun c29 => ?_) (fun c29 => ?_)
      · have h := sf_ift c29 h
        refine sf_bipush (v := 116) X dX7_putBond_50 sf_bc_116 rfl ?_
        obtain ⟨τ31, hR30, h⟩ := h
        refine sf_callVv (As := [.int (116 : Int32)]) (rest := []) (cv := (RX7, TX7, 23)) X rfl rfl (c_X7_put hq hR30) (cwV 1 X.1.2.2.2.2 (sf_gV tw_868 tw_870 tw_38 tw_48 tw_871) rfl rfl rfl ⟨rfl, hd_X7_put⟩ ⟨Nat.le_of_ble_eq_true rfl, Nat.le_of_ble_eq_true rfl⟩) rfl rfl (Nat.le_of_ble_eq_true rfl) dX7_putBond_52 rfl ?_
        refine sf_aload_n (i := 0) (j := 1) X dX7_putBond_55 rfl rfl rfl ?_
        refine sf_getR (C := RX7) (T := TX7) (N := 23) (ci := 7) (j := 7) (k' := 6) X (fun w h => sf_memc (inX7 w h)) rfl rfl (by decide) (X.1.2.2.2.2 _ (sf_memc tw_638)) (fun _ h9 => h9) rfl dX7_putBond_56 rfl ?_
        refine sf_iload_n (i := 1) (j := 2) X dX7_putBond_59 rfl rfl rfl ?_
        obtain ⟨b32, h⟩ := h
        refine sf_iald X rfl b32 dX7_putBond_60 rfl ?_
        refine sf_iconst (v := 3) X dX7_putBond_61 sf_ic_3 rfl ?_
        refine sf_icmp_ne (tgt := 71) X dX7_putBond_62 rfl rfl (fun c33 => ?_) (fun c33 => ?_)
        · have h := sf_iff c33 h
          refine sf_aload_n (i := 0) (j := 1) X dX7_putBond_71 rfl rfl rfl ?_
          refine sf_bipush (v := 41) X dX7_putBond_72 sf_bc_41 rfl ?_
          obtain ⟨τ35, hR34, h⟩ := h
          refine sf_callVv (As := [.int (41 : Int32)]) (rest := []) (cv := (RX7, TX7, 23)) X rfl rfl (c_X7_put hq hR34) (cwV 1 X.1.2.2.2.2 (sf_gV tw_868 tw_870 tw_38 tw_48 tw_871) rfl rfl rfl ⟨rfl, hd_X7_put⟩ ⟨Nat.le_of_ble_eq_true rfl, Nat.le_of_ble_eq_true rfl⟩) rfl rfl (Nat.le_of_ble_eq_true rfl) dX7_putBond_74 rfl ?_
          exact sf_retv X h dX7_putBond_77
        · have h := sf_ift c33 h
          refine sf_aload_n (i := 0) (j := 1) X dX7_putBond_65 rfl rfl rfl ?_
          refine sf_bipush (v := 35) X dX7_putBond_66 sf_bc_35 rfl ?_
          obtain ⟨τ37, hR36, h⟩ := h
          refine sf_callVv (As := [.int (35 : Int32)]) (rest := []) (cv := (RX7, TX7, 23)) X rfl rfl (c_X7_put hq hR36) (cwV 1 X.1.2.2.2.2 (sf_gV tw_868 tw_870 tw_38 tw_48 tw_871) rfl rfl rfl ⟨rfl, hd_X7_put⟩ ⟨Nat.le_of_ble_eq_true rfl, Nat.le_of_ble_eq_true rfl⟩) rfl rfl (Nat.le_of_ble_eq_true rfl) dX7_putBond_68 rfl ?_
          refine sf_aload_n (i := 0) (j := 1) X dX7_putBond_71 rfl rfl rfl ?_
          refine sf_bipush (v := 41) X dX7_putBond_72 sf_bc_41 rfl ?_
          obtain ⟨τ39, hR38, h⟩ := h
          refine sf_callVv (As := [.int (41 : Int32)]) (rest := []) (cv := (RX7, TX7, 23)) X rfl rfl (c_X7_put hq hR38) (cwV 1 X.1.2.2.2.2 (sf_gV tw_868 tw_870 tw_38 tw_48 tw_871) rfl rfl rfl ⟨rfl, hd_X7_put⟩ ⟨Nat.le_of_ble_eq_true rfl, Nat.le_of_ble_eq_true rfl⟩) rfl rfl (Nat.le_of_ble_eq_true rfl) dX7_putBond_74 rfl ?_
          exact sf_retv X h dX7_putBond_77
      · have h := sf_iff c29 h
        refine sf_bipush (v := 99) X dX7_putBond_45 sf_bc_99 rfl ?_
        refine sf_goto (tgt := 52) X dX7_putBond_47 rfl ?_
        obtain ⟨τ41, hR40, h⟩ := h
        refine sf_callVv (As := [.int (99 : Int32)]) (rest := []) (cv := (RX7, TX7, 23)) X rfl rfl (c_X7_put hq hR40) (cwV 1 X.1.2.2.2.2 (sf_gV tw_868 tw_870 tw_38 tw_48 tw_871) rfl rfl rfl ⟨rfl, hd_X7_put⟩ ⟨Nat.le_of_ble_eq_true rfl, Nat.le_of_ble_eq_true rfl⟩) rfl rfl (Nat.le_of_ble_eq_true rfl) dX7_putBond_52 rfl ?_
        refine sf_aload_n (i := 0) (j := 1) X dX7_putBond_55 rfl rfl rfl ?_
        refine sf_getR (C := RX7) (T := TX7) (N := 23) (ci := 7) (j := 7) (k' := 6) X (fun w h => sf_memc (inX7 w h)) rfl rfl (by decide) (X.1.2.2.2.2 _ (sf_memc tw_638)) (fun _ h9 => h9) rfl dX7_putBond_56 rfl ?_
        refine sf_iload_n (i := 1) (j := 2) X dX7_putBond_59 rfl rfl rfl ?_
        obtain ⟨b42, h⟩ := h
        refine sf_iald X rfl b42 dX7_putBond_60 rfl ?_
        refine sf_iconst (v := 3) X dX7_putBond_61 sf_ic_3 rfl ?_
        refine sf_icmp_ne (tgt := 71) X dX7_putBond_62 rfl rfl (fun c43 => ?_) (fun c43 => ?_)
        · have h := sf_iff c43 h
          refine sf_aload_n (i := 0) (j := 1) X dX7_putBond_71 rfl rfl rfl ?_
          refine sf_bipush (v := 41) X dX7_putBond_72 sf_bc_41 rfl ?_
          obtain ⟨τ45, hR44, h⟩ := h
          refine sf_callVv (As := [.int (41 : Int32)]) (rest := []) (cv := (RX7, TX7, 23)) X rfl rfl (c_X7_put hq hR44) (cwV 1 X.1.2.2.2.2 (sf_gV tw_868 tw_870 tw_38 tw_48 tw_871) rfl rfl rfl ⟨rfl, hd_X7_put⟩ ⟨Nat.le_of_ble_eq_true rfl, Nat.le_of_ble_eq_true rfl⟩) rfl rfl (Nat.le_of_ble_eq_true rfl) dX7_putBond_74 rfl ?_
          exact sf_retv X h dX7_putBond_77
        · have h := sf_ift c43 h
          refine sf_aload_n (i := 0) (j := 1) X dX7_putBond_65 rfl rfl rfl ?_
          refine sf_bipush (v := 35) X dX7_putBond_66 sf_bc_35 rfl ?_
          obtain ⟨τ47, hR46, h⟩ := h
          refine sf_callVv (As := [.int (35 : Int32)]) (rest := []) (cv := (RX7, TX7, 23)) X rfl rfl (c_X7_put hq hR46) (cwV 1 X.1.2.2.2.2 (sf_gV tw_868 tw_870 tw_38 tw_48 tw_871) rfl rfl rfl ⟨rfl, hd_X7_put⟩ ⟨Nat.le_of_ble_eq_true rfl, Nat.le_of_ble_eq_true rfl⟩) rfl rfl (Nat.le_of_ble_eq_true rfl) dX7_putBond_68 rfl ?_
          refine sf_aload_n (i := 0) (j := 1) X dX7_putBond_71 rfl rfl rfl ?_
          refine sf_bipush (v := 41) X dX7_putBond_72 sf_bc_41 rfl ?_
          obtain ⟨τ49, hR48, h⟩ := h
          refine sf_callVv (As := [.int (41 : Int32)]) (rest := []) (cv := (RX7, TX7, 23)) X rfl rfl (c_X7_put hq hR48) (cwV 1 X.1.2.2.2.2 (sf_gV tw_868 tw_870 tw_38 tw_48 tw_871) rfl rfl rfl ⟨rfl, hd_X7_put⟩ ⟨Nat.le_of_ble_eq_true rfl, Nat.le_of_ble_eq_true rfl⟩) rfl rfl (Nat.le_of_ble_eq_true rfl) dX7_putBond_74 rfl ?_
          exact sf_retv X h dX7_putBond_77
def tr_R_X7_write_0 (Pr : Nat → sf_St → Int32 → Int32 → Int32 → Int32 → Int32 → Int32 → Prop) (r : Int32) (τ : sf_St) (σ : sf_St) (u0 u1 u2 u3 u4 u5 : Int32) : Prop :=
  ∀ τ1 : sf_St, τ1 = sf_up σ 0 19 (0 : Int32) → (∃ (r4 : Int32) (τ3 : sf_St), R_X7_leastSenses τ1 (0 : Int32) r4 τ3 ∧ (if (τ3 0 0) = (0 : Int32) then (Pr 1 τ3 r4 (0 : Int32) (1 : Int32) 0 0 0) else (Pr 1 τ3 r4 (0 : Int32) (0 : Int32) 0 0 0)))
def tr_R_X7_write_1 (Pr : Nat → sf_St → Int32 → Int32 → Int32 → Int32 → Int32 → Int32 → Prop) (r : Int32) (τ : sf_St) (σ : sf_St) (u0 u1 u2 u3 u4 u5 : Int32) : Prop :=
  if u2 = (0 : Int32) then (vp_in u1 5040 ∧ (∃ τ9 : sf_St, R_X7_unpack σ (σ 11 (sf_ix u1)) τ9 ∧ (∃ (r12 : Int32) (τ11 : sf_St), R_X7_sensesNow τ9 (0 : Int32) r12 τ11 ∧ (if r12 = u0 then (∀ y15 : Int32, y15 = u1 + (1 : Int32) → (Pr 1 τ11 u0 y15 (1 : Int32) 0 0 0)) else (∀ y14 : Int32, y14 = u1 + (1 : Int32) → (Pr 1 τ11 u0 y14 (0 : Int32) 0 0 0)))))) else (Pr 2 σ u0 u1 u2 (0 : Int32) 0 0)
def tr_R_X7_write_2 (Pr : Nat → sf_St → Int32 → Int32 → Int32 → Int32 → Int32 → Int32 → Prop) (r : Int32) (τ : sf_St) (σ : sf_St) (u0 u1 u2 u3 u4 u5 : Int32) : Prop :=
  if (σ 0 0) ≤ u3 then (r = (σ 0 19) ∧ τ = σ) else (vp_in u3 7 ∧ (vp_in (σ 8 (sf_ix u3)) 7 ∧ (∃ τ20 : sf_St, R_X7_putElement σ (σ 1 (sf_ix (σ 8 (sf_ix u3)))) τ20 ∧ (vp_in u3 7 ∧ (∃ (r24 : Int32) (τ23 : sf_St), R_X7_centreSense τ20 (τ20 8 (sf_ix u3)) r24 τ23 ∧ (if r24 = (0 : Int32) then (if r24 ≤ (0 : Int32) then (Pr 3 τ23 u0 u1 u2 u3 r24 (0 : Int32)) else (∃ τ28 : sf_St, R_X7_put τ23 (64 : Int32) τ28 ∧ (Pr 3 τ28 u0 u1 u2 u3 r24 (0 : Int32)))) else (∃ τ30 : sf_St, R_X7_put τ23 (64 : Int32) τ30 ∧ (if r24 ≤ (0 : Int32) then (Pr 3 τ30 u0 u1 u2 u3 r24 (0 : Int32)) else (∃ τ33 : sf_St, R_X7_put τ30 (64 : Int32) τ33 ∧ (Pr 3 τ33 u0 u1 u2 u3 r24 (0 : Int32)))))))))))
def tr_R_X7_write_3 (Pr : Nat → sf_St → Int32 → Int32 → Int32 → Int32 → Int32 → Int32 → Prop) (r : Int32) (τ : sf_St) (σ : sf_St) (u0 u1 u2 u3 u4 u5 : Int32) : Prop :=
  if u3 ≤ u5 then (∃ τ36 : sf_St, R_X7_put σ (59 : Int32) τ36 ∧ (∀ y37 : Int32, y37 = u3 + (1 : Int32) → (Pr 2 τ36 u0 u1 u2 y37 0 0))) else (vp_in u3 7 ∧ (vp_in u5 7 ∧ (∃ (r42 : Int32) (τ41 : sf_St), R_X7_bondOf σ (σ 8 (sf_ix u3)) (σ 8 (sf_ix u5)) r42 τ41 ∧ (if r42 < (0 : Int32) then (∀ y44 : Int32, y44 = u5 + (1 : Int32) → (Pr 3 τ41 u0 u1 u2 u3 u4 y44)) else (∃ τ46 : sf_St, R_X7_putBond τ41 r42 u5 τ46 ∧ (∀ y47 : Int32, y47 = u5 + (1 : Int32) → (Pr 3 τ46 u0 u1 u2 u3 u4 y47)))))))
def fn_R_X7_write (Pr : Nat → sf_St → Int32 → Int32 → Int32 → Int32 → Int32 → Int32 → Prop) (r : Int32) (τ : sf_St) (t : Nat) (σ : sf_St) (u0 u1 u2 u3 u4 u5 : Int32) : Prop := match t with
  | 0 => tr_R_X7_write_0 Pr r τ σ u0 u1 u2 u3 u4 u5
  | 1 => tr_R_X7_write_1 Pr r τ σ u0 u1 u2 u3 u4 u5
  | 2 => tr_R_X7_write_2 Pr r τ σ u0 u1 u2 u3 u4 u5
  | 3 => tr_R_X7_write_3 Pr r τ σ u0 u1 u2 u3 u4 u5
  | _ => False
def Rn_R_X7_write (t : Nat) (σ : sf_St) (u0 u1 u2 u3 u4 u5 : Int32) (r : Int32) (τ : sf_St) : Prop := ∀ Pr : Nat → sf_St → Int32 → Int32 → Int32 → Int32 → Int32 → Int32 → Prop, (∀ (t : Nat) (σ : sf_St) (u0 u1 u2 u3 u4 u5 : Int32), fn_R_X7_write Pr r τ t σ u0 u1 u2 u3 u4 u5 → Pr t σ u0 u1 u2 u3 u4 u5) → Pr t σ u0 u1 u2 u3 u4 u5
def R_X7_write (σ : sf_St) (r : Int32) (τ : sf_St) : Prop := Rn_R_X7_write 0 σ  0 0 0 0 0 0 r τ
theorem fe_R_X7_write_0 {Pr : Nat → sf_St → Int32 → Int32 → Int32 → Int32 → Int32 → Int32 → Prop} {r : Int32} {τ σ : sf_St} {u0 u1 u2 u3 u4 u5 : Int32} (h : fn_R_X7_write Pr r τ 0 σ u0 u1 u2 u3 u4 u5) : tr_R_X7_write_0 Pr r τ σ u0 u1 u2 u3 u4 u5 := h
theorem mo_R_X7_write_0 {Pr Pr' : Nat → sf_St → Int32 → Int32 → Int32 → Int32 → Int32 → Int32 → Prop} {r : Int32} {τ σ : sf_St} {u0 u1 u2 u3 u4 u5 : Int32} (hP : ∀ (t : Nat) (σ : sf_St) (u0 u1 u2 u3 u4 u5 : Int32), Pr t σ u0 u1 u2 u3 u4 u5 → Pr' t σ u0 u1 u2 u3 u4 u5) (h : tr_R_X7_write_0 Pr r τ σ u0 u1 u2 u3 u4 u5) : tr_R_X7_write_0 Pr' r τ σ u0 u1 u2 u3 u4 u5 := by
  unfold tr_R_X7_write_0 at h ⊢
  intro τ1 hτ1
  have h := h τ1 hτ1
  refine Exists.imp (fun _ h => Exists.imp (fun _ h => And.imp id (fun h => ?_) h) h) h
  refine sf_mif (fun h => ?_) (fun h => ?_) h
  · exact hP _ _ _ _ _ _ _ _ h
  · exact hP _ _ _ _ _ _ _ _ h
theorem ru_R_X7_write_0 {r : Int32} {τ σ : sf_St} {u0 u1 u2 u3 u4 u5 : Int32} (h : tr_R_X7_write_0 (fun t σ u0 u1 u2 u3 u4 u5 => Rn_R_X7_write t σ u0 u1 u2 u3 u4 u5 r τ) r τ σ u0 u1 u2 u3 u4 u5) : Rn_R_X7_write 0 σ u0 u1 u2 u3 u4 u5 r τ := fun Pr hP => hP 0 σ u0 u1 u2 u3 u4 u5 (mo_R_X7_write_0 (fun _ _ _ _ _ _ _ _ h => h Pr hP) h)
theorem fe_R_X7_write_1 {Pr : Nat → sf_St → Int32 → Int32 → Int32 → Int32 → Int32 → Int32 → Prop} {r : Int32} {τ σ : sf_St} {u0 u1 u2 u3 u4 u5 : Int32} (h : fn_R_X7_write Pr r τ 1 σ u0 u1 u2 u3 u4 u5) : tr_R_X7_write_1 Pr r τ σ u0 u1 u2 u3 u4 u5 := h
theorem mo_R_X7_write_1 {Pr Pr' : Nat → sf_St → Int32 → Int32 → Int32 → Int32 → Int32 → Int32 → Prop} {r : Int32} {τ σ : sf_St} {u0 u1 u2 u3 u4 u5 : Int32} (hP : ∀ (t : Nat) (σ : sf_St) (u0 u1 u2 u3 u4 u5 : Int32), Pr t σ u0 u1 u2 u3 u4 u5 → Pr' t σ u0 u1 u2 u3 u4 u5) (h : tr_R_X7_write_1 Pr r τ σ u0 u1 u2 u3 u4 u5) : tr_R_X7_write_1 Pr' r τ σ u0 u1 u2 u3 u4 u5 := by
  unfold tr_R_X7_write_1 at h ⊢
  refine sf_mif (fun h => ?_) (fun h => ?_) h
  · refine And.imp id (fun h => ?_) h
    refine Exists.imp (fun _ h => And.imp id (fun h => ?_) h) h
    refine Exists.imp (fun _ h => Exists.imp (fun _ h => And.imp id (fun h => ?_) h) h) h
    refine sf_mif (fun h => ?_) (fun h => ?_) h
    · intro y15 hy15
      have h := h y15 hy15
      exact hP _ _ _ _ _ _ _ _ h
    · intro y14 hy14
      have h := h y14 hy14
      exact hP _ _ _ _ _ _ _ _ h
  · exact hP _ _ _ _ _ _ _ _ h
theorem ru_R_X7_write_1 {r : Int32} {τ σ : sf_St} {u0 u1 u2 u3 u4 u5 : Int32} (h : tr_R_X7_write_1 (fun t σ u0 u1 u2 u3 u4 u5 => Rn_R_X7_write t σ u0 u1 u2 u3 u4 u5 r τ) r τ σ u0 u1 u2 u3 u4 u5) : Rn_R_X7_write 1 σ u0 u1 u2 u3 u4 u5 r τ := fun Pr hP => hP 1 σ u0 u1 u2 u3 u4 u5 (mo_R_X7_write_1 (fun _ _ _ _ _ _ _ _ h => h Pr hP) h)
theorem fe_R_X7_write_2 {Pr : Nat → sf_St → Int32 → Int32 → Int32 → Int32 → Int32 → Int32 → Prop} {r : Int32} {τ σ : sf_St} {u0 u1 u2 u3 u4 u5 : Int32} (h : fn_R_X7_write Pr r τ 2 σ u0 u1 u2 u3 u4 u5) : tr_R_X7_write_2 Pr r τ σ u0 u1 u2 u3 u4 u5 := h
theorem mo_R_X7_write_2 {Pr Pr' : Nat → sf_St → Int32 → Int32 → Int32 → Int32 → Int32 → Int32 → Prop} {r : Int32} {τ σ : sf_St} {u0 u1 u2 u3 u4 u5 : Int32} (hP : ∀ (t : Nat) (σ : sf_St) (u0 u1 u2 u3 u4 u5 : Int32), Pr t σ u0 u1 u2 u3 u4 u5 → Pr' t σ u0 u1 u2 u3 u4 u5) (h : tr_R_X7_write_2 Pr r τ σ u0 u1 u2 u3 u4 u5) : tr_R_X7_write_2 Pr' r τ σ u0 u1 u2 u3 u4 u5 := by
  unfold tr_R_X7_write_2 at h ⊢
  refine sf_mif (fun h => ?_) (fun h => ?_) h
  · exact h
  · refine And.imp id (fun h => ?_) h
    refine And.imp id (fun h => ?_) h
    refine Exists.imp (fun _ h => And.imp id (fun h => ?_) h) h
    refine And.imp id (fun h => ?_) h
    refine Exists.imp (fun _ h => Exists.imp (fun _ h => And.imp id (fun h => ?_) h) h) h
    refine sf_mif (fun h => ?_) (fun h => ?_) h
    · refine sf_mif (fun h => ?_) (fun h => ?_) h
      · exact hP _ _ _ _ _ _ _ _ h
      · refine Exists.imp (fun _ h => And.imp id (fun h => ?_) h) h
        exact hP _ _ _ _ _ _ _ _ h
    · refine Exists.imp (fun _ h => And.imp id (fun h => ?_) h) h
      refine sf_mif (fun h => ?_) (fun h => ?_) h
      · exact hP _ _ _ _ _ _ _ _ h
      · refine Exists.imp (fun _ h => And.imp id (fun h => ?_) h) h
        exact hP _ _ _ _ _ _ _ _ h
theorem ru_R_X7_write_2 {r : Int32} {τ σ : sf_St} {u0 u1 u2 u3 u4 u5 : Int32} (h : tr_R_X7_write_2 (fun t σ u0 u1 u2 u3 u4 u5 => Rn_R_X7_write t σ u0 u1 u2 u3 u4 u5 r τ) r τ σ u0 u1 u2 u3 u4 u5) : Rn_R_X7_write 2 σ u0 u1 u2 u3 u4 u5 r τ := fun Pr hP => hP 2 σ u0 u1 u2 u3 u4 u5 (mo_R_X7_write_2 (fun _ _ _ _ _ _ _ _ h => h Pr hP) h)
theorem fe_R_X7_write_3 {Pr : Nat → sf_St → Int32 → Int32 → Int32 → Int32 → Int32 → Int32 → Prop} {r : Int32} {τ σ : sf_St} {u0 u1 u2 u3 u4 u5 : Int32} (h : fn_R_X7_write Pr r τ 3 σ u0 u1 u2 u3 u4 u5) : tr_R_X7_write_3 Pr r τ σ u0 u1 u2 u3 u4 u5 := h
theorem mo_R_X7_write_3 {Pr Pr' : Nat → sf_St → Int32 → Int32 → Int32 → Int32 → Int32 → Int32 → Prop} {r : Int32} {τ σ : sf_St} {u0 u1 u2 u3 u4 u5 : Int32} (hP : ∀ (t : Nat) (σ : sf_St) (u0 u1 u2 u3 u4 u5 : Int32), Pr t σ u0 u1 u2 u3 u4 u5 → Pr' t σ u0 u1 u2 u3 u4 u5) (h : tr_R_X7_write_3 Pr r τ σ u0 u1 u2 u3 u4 u5) : tr_R_X7_write_3 Pr' r τ σ u0 u1 u2 u3 u4 u5 := by
  unfold tr_R_X7_write_3 at h ⊢
  refine sf_mif (fun h => ?_) (fun h => ?_) h
  · refine Exists.imp (fun _ h => And.imp id (fun h => ?_) h) h
    intro y37 hy37
    have h := h y37 hy37
    exact hP _ _ _ _ _ _ _ _ h
  · refine And.imp id (fun h => ?_) h
    refine And.imp id (fun h => ?_) h
    refine Exists.imp (fun _ h => Exists.imp (fun _ h => And.imp id (fun h => ?_) h) h) h
    refine sf_mif (fun h => ?_) (fun h => ?_) h
    · intro y44 hy44
      have h := h y44 hy44
      exact hP _ _ _ _ _ _ _ _ h
    · refine Exists.imp (fun _ h => And.imp id (fun h => ?_) h) h
      intro y47 hy47
      have h := h y47 hy47
      exact hP _ _ _ _ _ _ _ _ h
theorem ru_R_X7_write_3 {r : Int32} {τ σ : sf_St} {u0 u1 u2 u3 u4 u5 : Int32} (h : tr_R_X7_write_3 (fun t σ u0 u1 u2 u3 u4 u5 => Rn_R_X7_write t σ u0 u1 u2 u3 u4 u5 r τ) r τ σ u0 u1 u2 u3 u4 u5) : Rn_R_X7_write 3 σ u0 u1 u2 u3 u4 u5 r τ := fun Pr hP => hP 3 σ u0 u1 u2 u3 u4 u5 (mo_R_X7_write_3 (fun _ _ _ _ _ _ _ _ h => h Pr hP) h)
set_option maxHeartbeats 4000000 in
set_option maxRecDepth 100000 in
theorem c_X7_write {l : Launch} {D : va_G} {q : Nat → Nat} {dA : Nat → ClassId}  (hq : sf_inj q KM) {σ τ : sf_St} {r : Int32} (h : R_X7_write σ  r τ) : sf_Mi l yX7_write wsX7_write ({ frames := 6, cells := 0, slots := 0, locals := 147 }) D vwCl q dA KM sf_EM [.ref (q 0)] σ r τ := by
  refine sf_meti (cc := cX7_write) (maxL := 8) (ret := (some .int)) (own := RX7) (by decide +kernel) rfl rfl hq sf_EMk (Nat.le_of_ble_eq_true rfl) ?_
  intro p e s m args below meth c X
  refine sf_loc (lv' := [(0, .ref (q 0))]) [0] rfl ?_
  refine h (fun t σ u0 u1 u2 u3 u4 u5 => match t with
    | 0 => sf_G p l e (headSpec wsX7_write ({ frames := 6, cells := 0, slots := 0, locals := 147 })).room s m args below meth c (sf_Qi D vwCl q dA KM sf_EM below args s r τ) 8 D vwCl q dA KM σ 0 [(0, .ref (q 0))] []
    | 1 => sf_G p l e (headSpec wsX7_write ({ frames := 6, cells := 0, slots := 0, locals := 147 })).room s m args below meth c (sf_Qi D vwCl q dA KM sf_EM below args s r τ) 8 D vwCl q dA KM σ 26 [(0, .ref (q 0)), (1, .int u0), (2, .int u1), (3, .int u2)] []
    | 2 => sf_G p l e (headSpec wsX7_write ({ frames := 6, cells := 0, slots := 0, locals := 147 })).room s m args below meth c (sf_Qi D vwCl q dA KM sf_EM below args s r τ) 8 D vwCl q dA KM σ 64 [(0, .ref (q 0)), (1, .int u0), (2, .int u1), (3, .int u2), (4, .int u3)] []
    | 3 => sf_G p l e (headSpec wsX7_write ({ frames := 6, cells := 0, slots := 0, locals := 147 })).room s m args below meth c (sf_Qi D vwCl q dA KM sf_EM below args s r τ) 8 D vwCl q dA KM σ 127 [(0, .ref (q 0)), (1, .int u0), (2, .int u1), (3, .int u2), (4, .int u3), (5, .int u4), (6, .int u5)] []
    | _ => True) ?_
  intro t σ u0 u1 u2 u3 u4 u5 h
  match t, h with
  | 0, h =>
      replace h := fe_R_X7_write_0 h
      unfold tr_R_X7_write_0 at h
      show sf_G p l e (headSpec wsX7_write ({ frames := 6, cells := 0, slots := 0, locals := 147 })).room s m args below meth c (sf_Qi D vwCl q dA KM sf_EM below args s r τ) 8 D vwCl q dA KM σ 0 [(0, .ref (q 0))] []
      refine sf_aload_n (i := 0) (j := 0) X dX7_write_0 rfl rfl rfl ?_
      refine sf_iconst (v := 0) X dX7_write_1 sf_ic_0 rfl ?_
      refine sf_putI (C := RX7) (T := TX7) (N := 23) (ci := 7) (j := 19) (ty := .int) X (fun w h => sf_memc (inX7 w h)) rfl rfl (by decide) (X.1.2.2.2.2 _ (sf_memc tw_650)) (fun _ h9 => h9) tyX7 tyX7_ok nmX7 rfl (by decide +kernel) rfl rfl rfl dX7_write_2 rfl (fun τ1 hτ1 => ?_)
      have h := h τ1 hτ1
      refine sf_aload_n (i := 0) (j := 0) X dX7_write_5 rfl rfl rfl ?_
      refine sf_iconst (v := 0) X dX7_write_6 sf_ic_0 rfl ?_
      obtain ⟨r4, τ3, hR2, h⟩ := h
      refine sf_callVi (As := [.int (0 : Int32)]) (rest := []) (cv := (RX7, TX7, 23)) X rfl rfl (c_X7_leastSenses hq hR2) (cwV 1 X.1.2.2.2.2 (sf_gV tw_831 tw_833 tw_34 tw_48 tw_834) rfl rfl rfl ⟨rfl, hd_X7_leastSenses⟩ ⟨Nat.le_of_ble_eq_true rfl, Nat.le_of_ble_eq_true rfl⟩) rfl rfl (Nat.le_of_ble_eq_true rfl) dX7_write_7 rfl ?_
      refine sf_istore_n (i := 1) (lv' := [(1, .int r4), (0, .ref (q 0))]) X dX7_write_10 rfl (by decide) rfl rfl ?_
      refine sf_iconst (v := 0) X dX7_write_11 sf_ic_0 rfl ?_
      refine sf_istore_n (i := 2) (lv' := [(2, .int (0 : Int32)), (1, .int r4), (0, .ref (q 0))]) X dX7_write_12 rfl (by decide) rfl rfl ?_
      refine sf_aload_n (i := 0) (j := 2) X dX7_write_13 rfl rfl rfl ?_
      refine sf_getI (C := RX7) (T := TX7) (N := 23) (ci := 7) (j := 0) X (fun w h => sf_memc (inX7 w h)) rfl rfl (by decide) (X.1.2.2.2.2 _ (sf_memc tw_631)) (fun _ h9 => h9) rfl dX7_write_14 rfl ?_
      refine sf_if_ne (tgt := 24) X dX7_write_17 rfl rfl (fun c5 => ?_) (fun c5 => ?_)
      · have h := sf_iff c5 h
        refine sf_iconst (v := 0) X dX7_write_24 sf_ic_0 rfl ?_
        refine sf_istore_n (i := 3) (lv' := [(3, .int (0 : Int32)), (2, .int (0 : Int32)), (1, .int r4), (0, .ref (q 0))]) X dX7_write_25 rfl (by decide) rfl rfl ?_
        refine sf_loc (lv' := [(0, .ref (q 0)), (1, .int r4), (2, .int (0 : Int32)), (3, .int (0 : Int32))]) [3, 2, 1, 0] rfl ?_
        exact h
      · have h := sf_ift c5 h
        refine sf_iconst (v := 1) X dX7_write_20 sf_ic_1 rfl ?_
        refine sf_goto (tgt := 25) X dX7_write_21 rfl ?_
        refine sf_istore_n (i := 3) (lv' := [(3, .int (1 : Int32)), (2, .int (0 : Int32)), (1, .int r4), (0, .ref (q 0))]) X dX7_write_25 rfl (by decide) rfl rfl ?_
        refine sf_loc (lv' := [(0, .ref (q 0)), (1, .int r4), (2, .int (0 : Int32)), (3, .int (1 : Int32))]) [3, 2, 1, 0] rfl ?_
        exact h
  | 1, h =>
      replace h := fe_R_X7_write_1 h
      unfold tr_R_X7_write_1 at h
      show sf_G p l e (headSpec wsX7_write ({ frames := 6, cells := 0, slots := 0, locals := 147 })).room s m args below meth c (sf_Qi D vwCl q dA KM sf_EM below args s r τ) 8 D vwCl q dA KM σ 26 [(0, .ref (q 0)), (1, .int u0), (2, .int u1), (3, .int u2)] []
      refine sf_iload_n (i := 3) (j := 3) X dX7_write_26 rfl rfl rfl ?_
      refine sf_if_ne (tgt := 61) X dX7_write_27 rfl rfl (fun c6 => ?_) (fun c6 => ?_)
      · have h := sf_iff c6 h
        refine sf_iconst (v := 0) X dX7_write_61 sf_ic_0 rfl ?_
        refine sf_istore (i := 4) (lv' := [(4, .int (0 : Int32)), (0, .ref (q 0)), (1, .int u0), (2, .int u1), (3, .int u2)]) X dX7_write_62 (by decide) rfl rfl ?_
        refine sf_loc (lv' := [(0, .ref (q 0)), (1, .int u0), (2, .int u1), (3, .int u2), (4, .int (0 : Int32))]) [1, 2, 3, 4, 0] rfl ?_
        exact h
      · have h := sf_ift c6 h
        refine sf_aload_n (i := 0) (j := 0) X dX7_write_30 rfl rfl rfl ?_
        refine sf_aload_n (i := 0) (j := 0) X dX7_write_31 rfl rfl rfl ?_
        refine sf_getR (C := RX7) (T := TX7) (N := 23) (ci := 7) (j := 14) (k' := 11) X (fun w h => sf_memc (inX7 w h)) rfl rfl (by decide) (X.1.2.2.2.2 _ (sf_memc tw_645)) (fun _ h9 => h9) rfl dX7_write_32 rfl ?_
        refine sf_iload_n (i := 2) (j := 2) X dX7_write_35 rfl rfl rfl ?_
        obtain ⟨b7, h⟩ := h
        refine sf_iald X rfl b7 dX7_write_36 rfl ?_
        obtain ⟨τ9, hR8, h⟩ := h
        refine sf_callVv (As := [.int (σ 11 (sf_ix u1))]) (rest := []) (cv := (RX7, TX7, 23)) X rfl rfl (c_X7_unpack hq hR8) (cwV 1 X.1.2.2.2.2 (sf_gV tw_836 tw_838 tw_35 tw_48 tw_839) rfl rfl rfl ⟨rfl, hd_X7_unpack⟩ ⟨Nat.le_of_ble_eq_true rfl, Nat.le_of_ble_eq_true rfl⟩) rfl rfl (Nat.le_of_ble_eq_true rfl) dX7_write_37 rfl ?_
        refine sf_aload_n (i := 0) (j := 0) X dX7_write_40 rfl rfl rfl ?_
        refine sf_iconst (v := 0) X dX7_write_41 sf_ic_0 rfl ?_
        obtain ⟨r12, τ11, hR10, h⟩ := h
        refine sf_callVi (As := [.int (0 : Int32)]) (rest := []) (cv := (RX7, TX7, 23)) X rfl rfl (c_X7_sensesNow hq hR10) (cwV 1 X.1.2.2.2.2 (sf_gV tw_840 tw_842 tw_36 tw_48 tw_843) rfl rfl rfl ⟨rfl, hd_X7_sensesNow⟩ ⟨Nat.le_of_ble_eq_true rfl, Nat.le_of_ble_eq_true rfl⟩) rfl rfl (Nat.le_of_ble_eq_true rfl) dX7_write_42 rfl ?_
        refine sf_iload_n (i := 1) (j := 1) X dX7_write_45 rfl rfl rfl ?_
        refine sf_icmp_ne (tgt := 53) X dX7_write_46 rfl rfl (fun c13 => ?_) (fun c13 => ?_)
        · have h := sf_iff c13 h
          refine sf_iconst (v := 0) X dX7_write_53 sf_ic_0 rfl ?_
          refine sf_istore_n (i := 3) (lv' := [(3, .int (0 : Int32)), (0, .ref (q 0)), (1, .int u0), (2, .int u1)]) X dX7_write_54 rfl (by decide) rfl rfl ?_
          refine sf_iinc (i := 2) (j := 3) (d := 1) (lv' := fun y14 => [(2, .int y14), (3, .int (0 : Int32)), (0, .ref (q 0)), (1, .int u0)]) X dX7_write_55 rfl sf_ic_1 (by decide) (fun _ => rfl) rfl (fun y14 hy14 => ?_)
          have h := h y14 hy14
          refine sf_goto (tgt := 26) X dX7_write_58 rfl ?_
          refine sf_loc (lv' := [(0, .ref (q 0)), (1, .int u0), (2, .int y14), (3, .int (0 : Int32))]) [2, 3, 0, 1] rfl ?_
          exact h
        · have h := sf_ift c13 h
          refine sf_iconst (v := 1) X dX7_write_49 sf_ic_1 rfl ?_
          refine sf_goto (tgt := 54) X dX7_write_50 rfl ?_
          refine sf_istore_n (i := 3) (lv' := [(3, .int (1 : Int32)), (0, .ref (q 0)), (1, .int u0), (2, .int u1)]) X dX7_write_54 rfl (by decide) rfl rfl ?_
          refine sf_iinc (i := 2) (j := 3) (d := 1) (lv' := fun y15 => [(2, .int y15), (3, .int (1 : Int32)), (0, .ref (q 0)), (1, .int u0)]) X dX7_write_55 rfl sf_ic_1 (by decide) (fun _ => rfl) rfl (fun y15 hy15 => ?_)
          have h := h y15 hy15
          refine sf_goto (tgt := 26) X dX7_write_58 rfl ?_
          refine sf_loc (lv' := [(0, .ref (q 0)), (1, .int u0), (2, .int y15), (3, .int (1 : Int32))]) [2, 3, 0, 1] rfl ?_
          exact h
  | 2, h =>
      replace h := fe_R_X7_write_2 h
      unfold tr_R_X7_write_2 at h
      show sf_G p l e (headSpec wsX7_write ({ frames := 6, cells := 0, slots := 0, locals := 147 })).room s m args below meth c (sf_Qi D vwCl q dA KM sf_EM below args s r τ) 8 D vwCl q dA KM σ 64 [(0, .ref (q 0)), (1, .int u0), (2, .int u1), (3, .int u2), (4, .int u3)] []
      refine sf_iload (i := 4) (j := 4) X dX7_write_64 rfl rfl ?_
      refine sf_aload_n (i := 0) (j := 0) X dX7_write_66 rfl rfl rfl ?_
      refine sf_getI (C := RX7) (T := TX7) (N := 23) (ci := 7) (j := 0) X (fun w h => sf_memc (inX7 w h)) rfl rfl (by decide) (X.1.2.2.2.2 _ (sf_memc tw_631)) (fun _ h9 => h9) rfl dX7_write_67 rfl ?_
      refine sf_icmp_ge (tgt := 185) X dX7_write_70 rfl rfl (fun c16 => ?_) (fun c16 => ?_)
      · have h := sf_ift c16 h
        refine sf_aload_n (i := 0) (j := 0) X dX7_write_185 rfl rfl rfl ?_
        refine sf_getI (C := RX7) (T := TX7) (N := 23) (ci := 7) (j := 19) X (fun w h => sf_memc (inX7 w h)) rfl rfl (by decide) (X.1.2.2.2.2 _ (sf_memc tw_650)) (fun _ h9 => h9) rfl dX7_write_186 rfl ?_
        exact sf_reti X h dX7_write_189
      · have h := sf_iff c16 h
        refine sf_aload_n (i := 0) (j := 0) X dX7_write_73 rfl rfl rfl ?_
        refine sf_aload_n (i := 0) (j := 0) X dX7_write_74 rfl rfl rfl ?_
        refine sf_getR (C := RX7) (T := TX7) (N := 23) (ci := 7) (j := 1) (k' := 1) X (fun w h => sf_memc (inX7 w h)) rfl rfl (by decide) (X.1.2.2.2.2 _ (sf_memc tw_632)) (fun _ h9 => h9) rfl dX7_write_75 rfl ?_
        refine sf_aload_n (i := 0) (j := 0) X dX7_write_78 rfl rfl rfl ?_
        refine sf_getR (C := RX7) (T := TX7) (N := 23) (ci := 7) (j := 9) (k' := 8) X (fun w h => sf_memc (inX7 w h)) rfl rfl (by decide) (X.1.2.2.2.2 _ (sf_memc tw_640)) (fun _ h9 => h9) rfl dX7_write_79 rfl ?_
        refine sf_iload (i := 4) (j := 4) X dX7_write_82 rfl rfl ?_
        obtain ⟨b17, h⟩ := h
        refine sf_iald X rfl b17 dX7_write_84 rfl ?_
        obtain ⟨b18, h⟩ := h
        refine sf_iald X rfl b18 dX7_write_85 rfl ?_
        obtain ⟨τ20, hR19, h⟩ := h
        refine sf_callVv (As := [.int (σ 1 (sf_ix (σ 8 (sf_ix u3))))]) (rest := []) (cv := (RX7, TX7, 23)) X rfl rfl (c_X7_putElement hq hR19) (cwV 1 X.1.2.2.2.2 (sf_gV tw_864 tw_866 tw_37 tw_48 tw_867) rfl rfl rfl ⟨rfl, hd_X7_putElement⟩ ⟨Nat.le_of_ble_eq_true rfl, Nat.le_of_ble_eq_true rfl⟩) rfl rfl (Nat.le_of_ble_eq_true rfl) dX7_write_86 rfl ?_
        refine sf_aload_n (i := 0) (j := 0) X dX7_write_89 rfl rfl rfl ?_
        refine sf_aload_n (i := 0) (j := 0) X dX7_write_90 rfl rfl rfl ?_
        refine sf_getR (C := RX7) (T := TX7) (N := 23) (ci := 7) (j := 9) (k' := 8) X (fun w h => sf_memc (inX7 w h)) rfl rfl (by decide) (X.1.2.2.2.2 _ (sf_memc tw_640)) (fun _ h9 => h9) rfl dX7_write_91 rfl ?_
        refine sf_iload (i := 4) (j := 4) X dX7_write_94 rfl rfl ?_
        obtain ⟨b21, h⟩ := h
        refine sf_iald X rfl b21 dX7_write_96 rfl ?_
        obtain ⟨r24, τ23, hR22, h⟩ := h
        refine sf_callVi (As := [.int (τ20 8 (sf_ix u3))]) (rest := []) (cv := (RX7, TX7, 23)) X rfl rfl (c_X7_centreSense hq hR22) (cwV 1 X.1.2.2.2.2 (sf_gV tw_759 tw_761 tw_20 tw_48 tw_762) rfl rfl rfl ⟨rfl, hd_X7_centreSense⟩ ⟨Nat.le_of_ble_eq_true rfl, Nat.le_of_ble_eq_true rfl⟩) rfl rfl (Nat.le_of_ble_eq_true rfl) dX7_write_97 rfl ?_
        refine sf_istore (i := 5) (lv' := [(5, .int r24), (0, .ref (q 0)), (1, .int u0), (2, .int u1), (3, .int u2), (4, .int u3)]) X dX7_write_100 (by decide) rfl rfl ?_
        refine sf_iload (i := 5) (j := 0) X dX7_write_102 rfl rfl ?_
        refine sf_if_eq (tgt := 113) X dX7_write_104 rfl rfl (fun c25 => ?_) (fun c25 => ?_)
        · have h := sf_ift c25 h
          refine sf_iload (i := 5) (j := 0) X dX7_write_113 rfl rfl ?_
          refine sf_if_le (tgt := 124) X dX7_write_115 rfl rfl (fun c26 => ?_) (fun c26 => ?_)
          · have h := sf_ift c26 h
            refine sf_iconst (v := 0) X dX7_write_124 sf_ic_0 rfl ?_
            refine sf_istore (i := 6) (lv' := [(6, .int (0 : Int32)), (5, .int r24), (0, .ref (q 0)), (1, .int u0), (2, .int u1), (3, .int u2), (4, .int u3)]) X dX7_write_125 (by decide) rfl rfl ?_
            refine sf_loc (lv' := [(0, .ref (q 0)), (1, .int u0), (2, .int u1), (3, .int u2), (4, .int u3), (5, .int r24), (6, .int (0 : Int32))]) [2, 3, 4, 5, 6, 1, 0] rfl ?_
            exact h
          · have h := sf_iff c26 h
            refine sf_aload_n (i := 0) (j := 1) X dX7_write_118 rfl rfl rfl ?_
            refine sf_bipush (v := 64) X dX7_write_119 sf_bc_64 rfl ?_
            obtain ⟨τ28, hR27, h⟩ := h
            refine sf_callVv (As := [.int (64 : Int32)]) (rest := []) (cv := (RX7, TX7, 23)) X rfl rfl (c_X7_put hq hR27) (cwV 1 X.1.2.2.2.2 (sf_gV tw_868 tw_870 tw_38 tw_48 tw_871) rfl rfl rfl ⟨rfl, hd_X7_put⟩ ⟨Nat.le_of_ble_eq_true rfl, Nat.le_of_ble_eq_true rfl⟩) rfl rfl (Nat.le_of_ble_eq_true rfl) dX7_write_121 rfl ?_
            refine sf_iconst (v := 0) X dX7_write_124 sf_ic_0 rfl ?_
            refine sf_istore (i := 6) (lv' := [(6, .int (0 : Int32)), (5, .int r24), (0, .ref (q 0)), (1, .int u0), (2, .int u1), (3, .int u2), (4, .int u3)]) X dX7_write_125 (by decide) rfl rfl ?_
            refine sf_loc (lv' := [(0, .ref (q 0)), (1, .int u0), (2, .int u1), (3, .int u2), (4, .int u3), (5, .int r24), (6, .int (0 : Int32))]) [2, 3, 4, 5, 6, 1, 0] rfl ?_
            exact h
        · have h := sf_iff c25 h
          refine sf_aload_n (i := 0) (j := 1) X dX7_write_107 rfl rfl rfl ?_
          refine sf_bipush (v := 64) X dX7_write_108 sf_bc_64 rfl ?_
          obtain ⟨τ30, hR29, h⟩ := h
          refine sf_callVv (As := [.int (64 : Int32)]) (rest := []) (cv := (RX7, TX7, 23)) X rfl rfl (c_X7_put hq hR29) (cwV 1 X.1.2.2.2.2 (sf_gV tw_868 tw_870 tw_38 tw_48 tw_871) rfl rfl rfl ⟨rfl, hd_X7_put⟩ ⟨Nat.le_of_ble_eq_true rfl, Nat.le_of_ble_eq_true rfl⟩) rfl rfl (Nat.le_of_ble_eq_true rfl) dX7_write_110 rfl ?_
          refine sf_iload (i := 5) (j := 0) X dX7_write_113 rfl rfl ?_
          refine sf_if_le (tgt := 124) X dX7_write_115 rfl rfl (fun c31 => ?_) (fun c31 => ?_)
          · have h := sf_ift c31 h
            refine sf_iconst (v := 0) X dX7_write_124 sf_ic_0 rfl ?_
            refine sf_istore (i := 6) (lv' := [(6, .int (0 : Int32)), (5, .int r24), (0, .ref (q 0)), (1, .int u0), (2, .int u1), (3, .int u2), (4, .int u3)]) X dX7_write_125 (by decide) rfl rfl ?_
            refine sf_loc (lv' := [(0, .ref (q 0)), (1, .int u0), (2, .int u1), (3, .int u2), (4, .int u3), (5, .int r24), (6, .int (0 : Int32))]) [2, 3, 4, 5, 6, 1, 0] rfl ?_
            exact h
          · have h := sf_iff c31 h
            refine sf_aload_n (i := 0) (j := 1) X dX7_write_118 rfl rfl rfl ?_
            refine sf_bipush (v := 64) X dX7_write_119 sf_bc_64 rfl ?_
            obtain ⟨τ33, hR32, h⟩ := h
            refine sf_callVv (As := [.int (64 : Int32)]) (rest := []) (cv := (RX7, TX7, 23)) X rfl rfl (c_X7_put hq hR32) (cwV 1 X.1.2.2.2.2 (sf_gV tw_868 tw_870 tw_38 tw_48 tw_871) rfl rfl rfl ⟨rfl, hd_X7_put⟩ ⟨Nat.le_of_ble_eq_true rfl, Nat.le_of_ble_eq_true rfl⟩) rfl rfl (Nat.le_of_ble_eq_true rfl) dX7_write_121 rfl ?_
            refine sf_iconst (v := 0) X dX7_write_124 sf_ic_0 rfl ?_
            refine sf_istore (i := 6) (lv' := [(6, .int (0 : Int32)), (5, .int r24), (0, .ref (q 0)), (1, .int u0), (2, .int u1), (3, .int u2), (4, .int u3)]) X dX7_write_125 (by decide) rfl rfl ?_
            refine sf_loc (lv' := [(0, .ref (q 0)), (1, .int u0), (2, .int u1), (3, .int u2), (4, .int u3), (5, .int r24), (6, .int (0 : Int32))]) [2, 3, 4, 5, 6, 1, 0] rfl ?_
            exact h
  | 3, h =>
      replace h := fe_R_X7_write_3 h
      unfold tr_R_X7_write_3 at h
      show sf_G p l e (headSpec wsX7_write ({ frames := 6, cells := 0, slots := 0, locals := 147 })).room s m args below meth c (sf_Qi D vwCl q dA KM sf_EM below args s r τ) 8 D vwCl q dA KM σ 127 [(0, .ref (q 0)), (1, .int u0), (2, .int u1), (3, .int u2), (4, .int u3), (5, .int u4), (6, .int u5)] []
      refine sf_iload (i := 6) (j := 6) X dX7_write_127 rfl rfl ?_
      refine sf_iload (i := 4) (j := 4) X dX7_write_129 rfl rfl ?_
      refine sf_icmp_ge (tgt := 173) X dX7_write_131 rfl rfl (fun c34 => ?_) (fun c34 => ?_)
      · have h := sf_ift c34 h
        refine sf_aload_n (i := 0) (j := 0) X dX7_write_173 rfl rfl rfl ?_
        refine sf_bipush (v := 59) X dX7_write_174 sf_bc_59 rfl ?_
        obtain ⟨τ36, hR35, h⟩ := h
        refine sf_callVv (As := [.int (59 : Int32)]) (rest := []) (cv := (RX7, TX7, 23)) X rfl rfl (c_X7_put hq hR35) (cwV 1 X.1.2.2.2.2 (sf_gV tw_868 tw_870 tw_38 tw_48 tw_871) rfl rfl rfl ⟨rfl, hd_X7_put⟩ ⟨Nat.le_of_ble_eq_true rfl, Nat.le_of_ble_eq_true rfl⟩) rfl rfl (Nat.le_of_ble_eq_true rfl) dX7_write_176 rfl ?_
        refine sf_iinc (i := 4) (j := 4) (d := 1) (lv' := fun y37 => [(4, .int y37), (0, .ref (q 0)), (1, .int u0), (2, .int u1), (3, .int u2), (5, .int u4), (6, .int u5)]) X dX7_write_179 rfl sf_ic_1 (by decide) (fun _ => rfl) rfl (fun y37 hy37 => ?_)
        have h := h y37 hy37
        refine sf_goto (tgt := 64) X dX7_write_182 rfl ?_
        refine sf_loc (lv' := [(0, .ref (q 0)), (1, .int u0), (2, .int u1), (3, .int u2), (4, .int y37)]) [1, 2, 3, 4, 0] rfl ?_
        exact h
      · have h := sf_iff c34 h
        refine sf_aload_n (i := 0) (j := 0) X dX7_write_134 rfl rfl rfl ?_
        refine sf_aload_n (i := 0) (j := 0) X dX7_write_135 rfl rfl rfl ?_
        refine sf_getR (C := RX7) (T := TX7) (N := 23) (ci := 7) (j := 9) (k' := 8) X (fun w h => sf_memc (inX7 w h)) rfl rfl (by decide) (X.1.2.2.2.2 _ (sf_memc tw_640)) (fun _ h9 => h9) rfl dX7_write_136 rfl ?_
        refine sf_iload (i := 4) (j := 4) X dX7_write_139 rfl rfl ?_
        obtain ⟨b38, h⟩ := h
        refine sf_iald X rfl b38 dX7_write_141 rfl ?_
        refine sf_aload_n (i := 0) (j := 0) X dX7_write_142 rfl rfl rfl ?_
        refine sf_getR (C := RX7) (T := TX7) (N := 23) (ci := 7) (j := 9) (k' := 8) X (fun w h => sf_memc (inX7 w h)) rfl rfl (by decide) (X.1.2.2.2.2 _ (sf_memc tw_640)) (fun _ h9 => h9) rfl dX7_write_143 rfl ?_
        refine sf_iload (i := 6) (j := 6) X dX7_write_146 rfl rfl ?_
        obtain ⟨b39, h⟩ := h
        refine sf_iald X rfl b39 dX7_write_148 rfl ?_
        obtain ⟨r42, τ41, hR40, h⟩ := h
        refine sf_callVi (As := [.int (σ 8 (sf_ix u3)), .int (σ 8 (sf_ix u5))]) (rest := []) (cv := (RX7, TX7, 23)) X rfl rfl (c_X7_bondOf hq hR40) (cwV 2 X.1.2.2.2.2 (sf_gV tw_716 tw_718 tw_16 tw_48 tw_719) rfl rfl rfl ⟨rfl, hd_X7_bondOf⟩ ⟨Nat.le_of_ble_eq_true rfl, Nat.le_of_ble_eq_true rfl⟩) rfl rfl (Nat.le_of_ble_eq_true rfl) dX7_write_149 rfl ?_
        refine sf_istore (i := 7) (lv' := [(7, .int r42), (0, .ref (q 0)), (1, .int u0), (2, .int u1), (3, .int u2), (4, .int u3), (5, .int u4), (6, .int u5)]) X dX7_write_152 (by decide) rfl rfl ?_
        refine sf_iload (i := 7) (j := 0) X dX7_write_154 rfl rfl ?_
        refine sf_if_lt (tgt := 167) X dX7_write_156 rfl rfl (fun c43 => ?_) (fun c43 => ?_)
        · have h := sf_ift c43 h
          refine sf_iinc (i := 6) (j := 7) (d := 1) (lv' := fun y44 => [(6, .int y44), (7, .int r42), (0, .ref (q 0)), (1, .int u0), (2, .int u1), (3, .int u2), (4, .int u3), (5, .int u4)]) X dX7_write_167 rfl sf_ic_1 (by decide) (fun _ => rfl) rfl (fun y44 hy44 => ?_)
          have h := h y44 hy44
          refine sf_goto (tgt := 127) X dX7_write_170 rfl ?_
          refine sf_loc (lv' := [(0, .ref (q 0)), (1, .int u0), (2, .int u1), (3, .int u2), (4, .int u3), (5, .int u4), (6, .int y44)]) [2, 3, 4, 5, 6, 7, 0] rfl ?_
          exact h
        · have h := sf_iff c43 h
          refine sf_aload_n (i := 0) (j := 1) X dX7_write_159 rfl rfl rfl ?_
          refine sf_iload (i := 7) (j := 0) X dX7_write_160 rfl rfl ?_
          refine sf_iload (i := 6) (j := 7) X dX7_write_162 rfl rfl ?_
          obtain ⟨τ46, hR45, h⟩ := h
          refine sf_callVv (As := [.int r42, .int u5]) (rest := []) (cv := (RX7, TX7, 23)) X rfl rfl (c_X7_putBond hq hR45) (cwV 2 X.1.2.2.2.2 (sf_gV tw_872 tw_874 tw_39 tw_48 tw_875) rfl rfl rfl ⟨rfl, hd_X7_putBond⟩ ⟨Nat.le_of_ble_eq_true rfl, Nat.le_of_ble_eq_true rfl⟩) rfl rfl (Nat.le_of_ble_eq_true rfl) dX7_write_164 rfl ?_
          refine sf_iinc (i := 6) (j := 7) (d := 1) (lv' := fun y47 => [(6, .int y47), (7, .int r42), (0, .ref (q 0)), (1, .int u0), (2, .int u1), (3, .int u2), (4, .int u3), (5, .int u4)]) X dX7_write_167 rfl sf_ic_1 (by decide) (fun _ => rfl) rfl (fun y47 hy47 => ?_)
          have h := h y47 hy47
          refine sf_goto (tgt := 127) X dX7_write_170 rfl ?_
          refine sf_loc (lv' := [(0, .ref (q 0)), (1, .int u0), (2, .int u1), (3, .int u2), (4, .int u3), (5, .int u4), (6, .int y47)]) [2, 3, 4, 5, 6, 7, 0] rfl ?_
          exact h
  | (_ + 4), _ => exact trivial
def R_X7_at (σ : sf_St) (u0 : Int32) (r : Int32) (τ : sf_St) : Prop :=
  if u0 < (0 : Int32) then (r = (-1 : Int32) ∧ τ = σ) else (if (σ 0 19) ≤ u0 then (r = (-1 : Int32) ∧ τ = σ) else (vp_in u0 128 ∧ (r = (σ 13 (sf_ix u0)) ∧ τ = σ)))
set_option maxHeartbeats 4000000 in
set_option maxRecDepth 100000 in
theorem c_X7_at {l : Launch} {D : va_G} {q : Nat → Nat} {dA : Nat → ClassId}  (hq : sf_inj q KM) {σ τ : sf_St} {u0 : Int32} {r : Int32} (h : R_X7_at σ u0 r τ) : sf_Mi l yX7_at wsX7_at ({ frames := 0, cells := 0, slots := 0, locals := 0 }) D vwCl q dA KM sf_EM [.ref (q 0), .int u0] σ r τ := by
  refine sf_meti (cc := cX7_at) (maxL := 2) (ret := (some .int)) (own := RX7) (by decide +kernel) rfl rfl hq sf_EMk (Nat.le_of_ble_eq_true rfl) ?_
  intro p e s m args below meth c X
  unfold R_X7_at at h
  refine sf_loc (lv' := [(0, .ref (q 0)), (1, .int u0)]) [0, 1] rfl ?_
  refine sf_iload_n (i := 1) (j := 1) X dX7_at_0 rfl rfl rfl ?_
  refine sf_if_lt (tgt := 21) X dX7_at_1 rfl rfl (fun c1 => ?_) (fun c1 => ?_)
  · have h := sf_ift c1 h
    refine sf_iconst (v := (-1)) X dX7_at_21 sf_ic_m1 rfl ?_
    exact sf_reti X h dX7_at_22
  · have h := sf_iff c1 h
    refine sf_iload_n (i := 1) (j := 1) X dX7_at_4 rfl rfl rfl ?_
    refine sf_aload_n (i := 0) (j := 0) X dX7_at_5 rfl rfl rfl ?_
    refine sf_getI (C := RX7) (T := TX7) (N := 23) (ci := 7) (j := 19) X (fun w h => sf_memc (inX7 w h)) rfl rfl (by decide) (X.1.2.2.2.2 _ (sf_memc tw_650)) (fun _ h9 => h9) rfl dX7_at_6 rfl ?_
    refine sf_icmp_ge (tgt := 21) X dX7_at_9 rfl rfl (fun c2 => ?_) (fun c2 => ?_)
    · have h := sf_ift c2 h
      refine sf_iconst (v := (-1)) X dX7_at_21 sf_ic_m1 rfl ?_
      exact sf_reti X h dX7_at_22
    · have h := sf_iff c2 h
      refine sf_aload_n (i := 0) (j := 0) X dX7_at_12 rfl rfl rfl ?_
      refine sf_getR (C := RX7) (T := TX7) (N := 23) (ci := 7) (j := 20) (k' := 13) X (fun w h => sf_memc (inX7 w h)) rfl rfl (by decide) (X.1.2.2.2.2 _ (sf_memc tw_651)) (fun _ h9 => h9) rfl dX7_at_13 rfl ?_
      refine sf_iload_n (i := 1) (j := 1) X dX7_at_16 rfl rfl rfl ?_
      obtain ⟨b3, h⟩ := h
      refine sf_iald X rfl b3 dX7_at_17 rfl ?_
      refine sf_goto (tgt := 22) X dX7_at_18 rfl ?_
      exact sf_reti X h dX7_at_22
