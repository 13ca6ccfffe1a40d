def R_X6_isPlace (σ : sf_St) (u0 u1 : Int32) (r : Int32) (τ : sf_St) : Prop :=
  if u0 < (-1000 : Int32) then (r = (0 : Int32) ∧ τ = σ) else (if (1000 : Int32) < u0 then (r = (0 : Int32) ∧ τ = σ) else (if u1 < (-1000 : Int32) then (r = (0 : Int32) ∧ τ = σ) else (if (1000 : Int32) < u1 then (r = (0 : Int32) ∧ τ = σ) else (r = (1 : Int32) ∧ τ = σ))))
set_option maxHeartbeats 4000000 in
set_option maxRecDepth 100000 in
theorem c_X6_isPlace {l : Launch} {D : va_G} {q : Nat → Nat} {dA : Nat → ClassId} {tv ta tb : Nat} (hq : sf_inj q KX) {σ τ : sf_St} {u0 u1 : Int32} {r : Int32} (h : R_X6_isPlace σ u0 u1 r τ) : sf_Mi l yX6_isPlace wsX6_isPlace ({ frames := 0, cells := 0, slots := 0, locals := 0 }) D vwCl q dA KX (sf_EX q tv ta tb) [.int u0, .int u1] σ r τ := by
  refine sf_meti (cc := cX6_isPlace) (maxL := 2) (ret := (some .boolean)) (own := RX6) (by decide +kernel) rfl rfl hq sf_EXk (Nat.le_of_ble_eq_true rfl) ?_
  intro p e s m args below meth c X
  have hT := X.2.2.2.1.2.1
  unfold R_X6_isPlace at h
  refine sf_loc (lv' := [(0, .int u0), (1, .int u1)]) [0, 1] rfl ?_
  refine sf_iload_n (i := 0) (j := 0) X dX6_isPlace_0 rfl rfl rfl ?_
  refine sf_sipush (v := (-1000)) X dX6_isPlace_1 sf_sc_m1000 rfl ?_
  refine sf_icmp_lt (tgt := 32) X dX6_isPlace_4 rfl rfl (fun c1 => ?_) (fun c1 => ?_)
  · have h := sf_ift c1 h
    refine sf_iconst (v := 0) X dX6_isPlace_32 sf_ic_0 rfl ?_
    exact sf_retz X h rfl dX6_isPlace_33
  · have h := sf_iff c1 h
    refine sf_iload_n (i := 0) (j := 0) X dX6_isPlace_7 rfl rfl rfl ?_
    refine sf_sipush (v := 1000) X dX6_isPlace_8 sf_sc_1000 rfl ?_
    refine sf_icmp_gt (tgt := 32) X dX6_isPlace_11 rfl rfl (fun c2 => ?_) (fun c2 => ?_)
    · have h := sf_ift c2 h
      refine sf_iconst (v := 0) X dX6_isPlace_32 sf_ic_0 rfl ?_
      exact sf_retz X h rfl dX6_isPlace_33
    · have h := sf_iff c2 h
      refine sf_iload_n (i := 1) (j := 1) X dX6_isPlace_14 rfl rfl rfl ?_
      refine sf_sipush (v := (-1000)) X dX6_isPlace_15 sf_sc_m1000 rfl ?_
      refine sf_icmp_lt (tgt := 32) X dX6_isPlace_18 rfl rfl (fun c3 => ?_) (fun c3 => ?_)
      · have h := sf_ift c3 h
        refine sf_iconst (v := 0) X dX6_isPlace_32 sf_ic_0 rfl ?_
        exact sf_retz X h rfl dX6_isPlace_33
      · have h := sf_iff c3 h
        refine sf_iload_n (i := 1) (j := 1) X dX6_isPlace_21 rfl rfl rfl ?_
        refine sf_sipush (v := 1000) X dX6_isPlace_22 sf_sc_1000 rfl ?_
        refine sf_icmp_gt (tgt := 32) X dX6_isPlace_25 rfl rfl (fun c4 => ?_) (fun c4 => ?_)
        · have h := sf_ift c4 h
          refine sf_iconst (v := 0) X dX6_isPlace_32 sf_ic_0 rfl ?_
          exact sf_retz X h rfl dX6_isPlace_33
        · have h := sf_iff c4 h
          refine sf_iconst (v := 1) X dX6_isPlace_28 sf_ic_1 rfl ?_
          refine sf_goto (tgt := 33) X dX6_isPlace_29 rfl ?_
          exact sf_retz X h rfl dX6_isPlace_33
def R_X0_addAtom (σ : sf_St) (u0 u1 u2 : Int32) (r : Int32) (τ : sf_St) : Prop :=
  ∀ y1 : Int32, y1 = (σ 1 3) → (vp_in y1 7 ∧ (∀ τ3 : sf_St, τ3 = sf_up σ 2 (sf_ix y1) u0 → (vp_in y1 7 ∧ (∀ τ5 : sf_St, τ5 = sf_up τ3 3 (sf_ix y1) u1 → (vp_in y1 7 ∧ (∀ τ7 : sf_St, τ7 = sf_up τ5 4 (sf_ix y1) u2 → (∀ τ8 : sf_St, τ8 = sf_up τ7 1 3 ((τ7 1 3) + (1 : Int32)) → (r = y1 ∧ τ = τ8))))))))
set_option maxHeartbeats 4000000 in
set_option maxRecDepth 100000 in
theorem c_X0_addAtom {l : Launch} {D : va_G} {q : Nat → Nat} {dA : Nat → ClassId} {tv ta tb : Nat} (hq : sf_inj q KX) {σ τ : sf_St} {u0 u1 u2 : Int32} {r : Int32} (h : R_X0_addAtom σ u0 u1 u2 r τ) : sf_Mi l yX0_addAtom wsX0_addAtom ({ frames := 0, cells := 0, slots := 0, locals := 0 }) D vwCl q dA KX (sf_EX q tv ta tb) [.ref (q 1), .int u0, .int u1, .int u2] σ r τ := by
  refine sf_meti (cc := cX0_addAtom) (maxL := 5) (ret := (some .int)) (own := RX0) (by decide +kernel) rfl rfl hq sf_EXk (Nat.le_of_ble_eq_true rfl) ?_
  intro p e s m args below meth c X
  have hT := X.2.2.2.1.2.1
  unfold R_X0_addAtom at h
  refine sf_loc (lv' := [(0, .ref (q 1)), (1, .int u0), (2, .int u1), (3, .int u2)]) [0, 1, 2, 3] rfl ?_
  refine sf_aload_n (i := 0) (j := 0) X dX0_addAtom_0 rfl rfl rfl ?_
  refine sf_getI (C := RX0) (T := TX0) (N := 10) (ci := 0) (j := 3) X (fun w h => sf_memc (inX0 w h)) rfl rfl (by decide) (X.1.2.2.2.2 _ (sf_memc tw_81)) (fun _ h9 => h9) rfl dX0_addAtom_1 rfl ?_
  refine sf_top (fun y1 hy1 => ?_)
  have h := h y1 hy1
  refine sf_istore (i := 4) (lv' := [(4, .int y1), (0, .ref (q 1)), (1, .int u0), (2, .int u1), (3, .int u2)]) X dX0_addAtom_4 (by decide) rfl rfl ?_
  refine sf_aload_n (i := 0) (j := 1) X dX0_addAtom_6 rfl rfl rfl ?_
  refine sf_getR (C := RX0) (T := TX0) (N := 10) (ci := 0) (j := 0) (k' := 2) X (fun w h => sf_memc (inX0 w h)) rfl rfl (by decide) (X.1.2.2.2.2 _ (sf_memc tw_72)) (fun _ h9 => h9) rfl dX0_addAtom_7 rfl ?_
  refine sf_iload (i := 4) (j := 0) X dX0_addAtom_10 rfl rfl ?_
  refine sf_iload_n (i := 1) (j := 2) X dX0_addAtom_12 rfl rfl rfl ?_
  obtain ⟨b2, h⟩ := h
  refine sf_iast X rfl b2 dX0_addAtom_13 rfl (fun τ3 hτ3 => ?_)
  have h := h τ3 hτ3
  refine sf_aload_n (i := 0) (j := 1) X dX0_addAtom_14 rfl rfl rfl ?_
  refine sf_getR (C := RX0) (T := TX0) (N := 10) (ci := 0) (j := 1) (k' := 3) X (fun w h => sf_memc (inX0 w h)) rfl rfl (by decide) (X.1.2.2.2.2 _ (sf_memc tw_75)) (fun _ h9 => h9) rfl dX0_addAtom_15 rfl ?_
  refine sf_iload (i := 4) (j := 0) X dX0_addAtom_18 rfl rfl ?_
  refine sf_iload_n (i := 2) (j := 3) X dX0_addAtom_20 rfl rfl rfl ?_
  obtain ⟨b4, h⟩ := h
  refine sf_iast X rfl b4 dX0_addAtom_21 rfl (fun τ5 hτ5 => ?_)
  have h := h τ5 hτ5
  refine sf_aload_n (i := 0) (j := 1) X dX0_addAtom_22 rfl rfl rfl ?_
  refine sf_getR (C := RX0) (T := TX0) (N := 10) (ci := 0) (j := 2) (k' := 4) X (fun w h => sf_memc (inX0 w h)) rfl rfl (by decide) (X.1.2.2.2.2 _ (sf_memc tw_78)) (fun _ h9 => h9) rfl dX0_addAtom_23 rfl ?_
  refine sf_iload (i := 4) (j := 0) X dX0_addAtom_26 rfl rfl ?_
  refine sf_iload_n (i := 3) (j := 4) X dX0_addAtom_28 rfl rfl rfl ?_
  obtain ⟨b6, h⟩ := h
  refine sf_iast X rfl b6 dX0_addAtom_29 rfl (fun τ7 hτ7 => ?_)
  have h := h τ7 hτ7
  refine sf_aload_n (i := 0) (j := 1) X dX0_addAtom_30 rfl rfl rfl ?_
  refine sf_dup X dX0_addAtom_31 rfl rfl ?_
  refine sf_getI (C := RX0) (T := TX0) (N := 10) (ci := 0) (j := 3) X (fun w h => sf_memc (inX0 w h)) rfl rfl (by decide) (X.1.2.2.2.2 _ (sf_memc tw_81)) (fun _ h9 => h9) rfl dX0_addAtom_32 rfl ?_
  refine sf_iconst (v := 1) X dX0_addAtom_35 sf_ic_1 rfl ?_
  refine sf_iadd X dX0_addAtom_36 rfl ?_
  refine sf_putI (C := RX0) (T := TX0) (N := 10) (ci := 0) (j := 3) (ty := .int) X (fun w h => sf_memc (inX0 w h)) rfl rfl (by decide) (X.1.2.2.2.2 _ (sf_memc tw_81)) (fun _ h9 => h9) tyX0 tyX0_ok nmX0 rfl (by decide +kernel) rfl rfl rfl dX0_addAtom_37 rfl (fun τ8 hτ8 => ?_)
  have h := h τ8 hτ8
  refine sf_iload (i := 4) (j := 0) X dX0_addAtom_40 rfl rfl ?_
  exact sf_reti X h dX0_addAtom_42
def R_X6_atom (σ : sf_St) (u0 u1 u2 : Int32) (r : Int32) (τ : sf_St) : Prop :=
  if u0 < (0 : Int32) then (r = (-1 : Int32) ∧ τ = σ) else (if (6 : Int32) ≤ u0 then (r = (-1 : Int32) ∧ τ = σ) else (∃ (r5 : Int32) (τ4 : sf_St), R_X6_isPlace σ u1 u2 r5 τ4 ∧ (if r5 = (0 : Int32) then (r = (-1 : Int32) ∧ τ = τ4) else (if (τ4 1 3) < (7 : Int32) then (∀ τ8 : sf_St, τ8 = sf_up τ4 0 10 (0 : Int32) → (∃ (r11 : Int32) (τ10 : sf_St), R_X0_addAtom τ8 u0 u1 u2 r11 τ10 ∧ (r = r11 ∧ τ = τ10))) else (r = (-2 : Int32) ∧ τ = τ4)))))
set_option maxHeartbeats 4000000 in
set_option maxRecDepth 100000 in
theorem c_X6_atom {l : Launch} {D : va_G} {q : Nat → Nat} {dA : Nat → ClassId} {tv ta tb : Nat} (hq : sf_inj q KX) {σ τ : sf_St} {u0 u1 u2 : Int32} {r : Int32} (h : R_X6_atom σ u0 u1 u2 r τ) : sf_Mi l yX6_atom wsX6_atom ({ frames := 1, cells := 0, slots := 0, locals := 24 }) D vwCl q dA KX (sf_EX q tv ta tb) [.ref (q 0), .int u0, .int u1, .int u2] σ r τ := by
  refine sf_meti (cc := cX6_atom) (maxL := 4) (ret := (some .int)) (own := RX6) (by decide +kernel) rfl rfl hq sf_EXk (Nat.le_of_ble_eq_true rfl) ?_
  intro p e s m args below meth c X
  have hT := X.2.2.2.1.2.1
  unfold R_X6_atom at h
  refine sf_loc (lv' := [(0, .ref (q 0)), (1, .int u0), (2, .int u1), (3, .int u2)]) [0, 1, 2, 3] rfl ?_
  refine sf_iload_n (i := 1) (j := 1) X dX6_atom_0 rfl rfl rfl ?_
  refine sf_if_lt (tgt := 20) X dX6_atom_1 rfl rfl (fun c1 => ?_) (fun c1 => ?_)
  · have h := sf_ift c1 h
    refine sf_iconst (v := (-1)) X dX6_atom_20 sf_ic_m1 rfl ?_
    exact sf_reti X h dX6_atom_21
  · have h := sf_iff c1 h
    refine sf_iload_n (i := 1) (j := 1) X dX6_atom_4 rfl rfl rfl ?_
    refine sf_gets (v := .ref tv) X X.2.2.2.1.1 (X.1.2.2.2.2 _ (sf_memc tw_262)) (fun _ h9 => h9) dX6_atom_5 rfl ?_
    refine sf_tlen (v := 6) X hT rfl dX6_atom_8 rfl ?_
    refine sf_icmp_ge (tgt := 20) X dX6_atom_9 rfl rfl (fun c2 => ?_) (fun c2 => ?_)
    · have h := sf_ift c2 h
      refine sf_iconst (v := (-1)) X dX6_atom_20 sf_ic_m1 rfl ?_
      exact sf_reti X h dX6_atom_21
    · have h := sf_iff c2 h
      refine sf_iload_n (i := 2) (j := 2) X dX6_atom_12 rfl rfl rfl ?_
      refine sf_iload_n (i := 3) (j := 3) X dX6_atom_13 rfl rfl rfl ?_
      obtain ⟨r5, τ4, hR3, h⟩ := h
      refine sf_callSi (As := [.int u1, .int u2]) (rest := []) X (c_X6_isPlace hq hR3) (va_cwS 2 X.1.2.2.2.2 (sf_gS tw_264 tw_265 tw_41 tw_266) rfl rfl rfl hd_X6_isPlace ⟨Nat.le_of_ble_eq_true rfl, Nat.le_of_ble_eq_true rfl⟩) rfl rfl (Nat.le_of_ble_eq_true rfl) dX6_atom_14 rfl ?_
      refine sf_if_ne (tgt := 22) X dX6_atom_17 rfl rfl (fun c6 => ?_) (fun c6 => ?_)
      · have h := sf_iff c6 h
        refine sf_aload_n (i := 0) (j := 0) X dX6_atom_22 rfl rfl rfl ?_
        refine sf_getR (C := RX6) (T := TX6) (N := 11) (ci := 6) (j := 0) (k' := 1) X (fun w h => sf_memc (inX6 w h)) rfl rfl (by decide) (X.1.2.2.2.2 _ (sf_memc tw_224)) (fun _ h9 => h9) rfl dX6_atom_23 rfl ?_
        refine sf_getI (C := RX0) (T := TX0) (N := 10) (ci := 0) (j := 3) X (fun w h => sf_memc (inX0 w h)) rfl rfl (by decide) (X.1.2.2.2.2 _ (sf_memc tw_85)) (fun _ h9 => h9) rfl dX6_atom_26 rfl ?_
        refine sf_bipush (v := 7) X dX6_atom_29 sf_bc_7 rfl ?_
        refine sf_icmp_lt (tgt := 37) X dX6_atom_31 rfl rfl (fun c7 => ?_) (fun c7 => ?_)
        · have h := sf_ift c7 h
          refine sf_aload_n (i := 0) (j := 0) X dX6_atom_37 rfl rfl rfl ?_
          refine sf_iconst (v := 0) X dX6_atom_38 sf_ic_0 rfl ?_
          refine sf_putI (C := RX6) (T := TX6) (N := 11) (ci := 6) (j := 10) (ty := .boolean) X (fun w h => sf_memc (inX6 w h)) rfl rfl (by decide) (X.1.2.2.2.2 _ (sf_memc tw_234)) (fun _ h9 => h9) tyX6 tyX6_ok nmX6 rfl (by decide +kernel) rfl rfl rfl dX6_atom_39 rfl (fun τ8 hτ8 => ?_)
          have h := h τ8 hτ8
          refine sf_aload_n (i := 0) (j := 0) X dX6_atom_42 rfl rfl rfl ?_
          refine sf_getR (C := RX6) (T := TX6) (N := 11) (ci := 6) (j := 0) (k' := 1) X (fun w h => sf_memc (inX6 w h)) rfl rfl (by decide) (X.1.2.2.2.2 _ (sf_memc tw_224)) (fun _ h9 => h9) rfl dX6_atom_43 rfl ?_
          refine sf_iload_n (i := 1) (j := 1) X dX6_atom_46 rfl rfl rfl ?_
          refine sf_iload_n (i := 2) (j := 2) X dX6_atom_47 rfl rfl rfl ?_
          refine sf_iload_n (i := 3) (j := 3) X dX6_atom_48 rfl rfl rfl ?_
          obtain ⟨r11, τ10, hR9, h⟩ := h
          refine sf_callVi (As := [.int u0, .int u1, .int u2]) (rest := []) (cv := (RX0, TX0, 10)) X rfl rfl (c_X0_addAtom hq hR9) (cwV 3 X.1.2.2.2.2 (sf_gV tw_267 tw_268 tw_269 tw_42 tw_270) rfl rfl rfl ⟨rfl, hd_X0_addAtom⟩ ⟨Nat.le_of_ble_eq_true rfl, Nat.le_of_ble_eq_true rfl⟩) rfl rfl (Nat.le_of_ble_eq_true rfl) dX6_atom_49 rfl ?_
          exact sf_reti X h dX6_atom_52
        · have h := sf_iff c7 h
          refine sf_bipush (v := (-2)) X dX6_atom_34 sf_bc_m2 rfl ?_
          exact sf_reti X h dX6_atom_36
      · have h := sf_ift c6 h
        refine sf_iconst (v := (-1)) X dX6_atom_20 sf_ic_m1 rfl ?_
        exact sf_reti X h dX6_atom_21
def R_X0_hasAtom (σ : sf_St) (u0 : Int32) (r : Int32) (τ : sf_St) : Prop :=
  if u0 < (0 : Int32) then (r = (0 : Int32) ∧ τ = σ) else (if (σ 1 3) ≤ u0 then (r = (0 : Int32) ∧ τ = σ) else (r = (1 : Int32) ∧ τ = σ))
set_option maxHeartbeats 4000000 in
set_option maxRecDepth 100000 in
theorem c_X0_hasAtom {l : Launch} {D : va_G} {q : Nat → Nat} {dA : Nat → ClassId} {tv ta tb : Nat} (hq : sf_inj q KX) {σ τ : sf_St} {u0 : Int32} {r : Int32} (h : R_X0_hasAtom σ u0 r τ) : sf_Mi l yX0_hasAtom wsX0_hasAtom ({ frames := 0, cells := 0, slots := 0, locals := 0 }) D vwCl q dA KX (sf_EX q tv ta tb) [.ref (q 1), .int u0] σ r τ := by
  refine sf_meti (cc := cX0_hasAtom) (maxL := 2) (ret := (some .boolean)) (own := RX0) (by decide +kernel) rfl rfl hq sf_EXk (Nat.le_of_ble_eq_true rfl) ?_
  intro p e s m args below meth c X
  have hT := X.2.2.2.1.2.1
  unfold R_X0_hasAtom at h
  refine sf_loc (lv' := [(0, .ref (q 1)), (1, .int u0)]) [0, 1] rfl ?_
  refine sf_iload_n (i := 1) (j := 1) X dX0_hasAtom_0 rfl rfl rfl ?_
  refine sf_if_lt (tgt := 16) X dX0_hasAtom_1 rfl rfl (fun c1 => ?_) (fun c1 => ?_)
  · have h := sf_ift c1 h
    refine sf_iconst (v := 0) X dX0_hasAtom_16 sf_ic_0 rfl ?_
    exact sf_retz X h rfl dX0_hasAtom_17
  · have h := sf_iff c1 h
    refine sf_iload_n (i := 1) (j := 1) X dX0_hasAtom_4 rfl rfl rfl ?_
    refine sf_aload_n (i := 0) (j := 0) X dX0_hasAtom_5 rfl rfl rfl ?_
    refine sf_getI (C := RX0) (T := TX0) (N := 10) (ci := 0) (j := 3) X (fun w h => sf_memc (inX0 w h)) rfl rfl (by decide) (X.1.2.2.2.2 _ (sf_memc tw_81)) (fun _ h9 => h9) rfl dX0_hasAtom_6 rfl ?_
    refine sf_icmp_ge (tgt := 16) X dX0_hasAtom_9 rfl rfl (fun c2 => ?_) (fun c2 => ?_)
    · have h := sf_ift c2 h
      refine sf_iconst (v := 0) X dX0_hasAtom_16 sf_ic_0 rfl ?_
      exact sf_retz X h rfl dX0_hasAtom_17
    · have h := sf_iff c2 h
      refine sf_iconst (v := 1) X dX0_hasAtom_12 sf_ic_1 rfl ?_
      refine sf_goto (tgt := 17) X dX0_hasAtom_13 rfl ?_
      exact sf_retz X h rfl dX0_hasAtom_17
def R_X6_isMark (σ : sf_St) (u0 : Int32) (r : Int32) (τ : sf_St) : Prop :=
  if u0 < (0 : Int32) then (r = (0 : Int32) ∧ τ = σ) else (if (2 : Int32) < u0 then (r = (0 : Int32) ∧ τ = σ) else (r = (1 : Int32) ∧ τ = σ))
set_option maxHeartbeats 4000000 in
set_option maxRecDepth 100000 in
theorem c_X6_isMark {l : Launch} {D : va_G} {q : Nat → Nat} {dA : Nat → ClassId} {tv ta tb : Nat} (hq : sf_inj q KX) {σ τ : sf_St} {u0 : Int32} {r : Int32} (h : R_X6_isMark σ u0 r τ) : sf_Mi l yX6_isMark wsX6_isMark ({ frames := 0, cells := 0, slots := 0, locals := 0 }) D vwCl q dA KX (sf_EX q tv ta tb) [.int u0] σ r τ := by
  refine sf_meti (cc := cX6_isMark) (maxL := 1) (ret := (some .boolean)) (own := RX6) (by decide +kernel) rfl rfl hq sf_EXk (Nat.le_of_ble_eq_true rfl) ?_
  intro p e s m args below meth c X
  have hT := X.2.2.2.1.2.1
  unfold R_X6_isMark at h
  refine sf_loc (lv' := [(0, .int u0)]) [0] rfl ?_
  refine sf_iload_n (i := 0) (j := 0) X dX6_isMark_0 rfl rfl rfl ?_
  refine sf_if_lt (tgt := 13) X dX6_isMark_1 rfl rfl (fun c1 => ?_) (fun c1 => ?_)
  · have h := sf_ift c1 h
    refine sf_iconst (v := 0) X dX6_isMark_13 sf_ic_0 rfl ?_
    exact sf_retz X h rfl dX6_isMark_14
  · have h := sf_iff c1 h
    refine sf_iload_n (i := 0) (j := 0) X dX6_isMark_4 rfl rfl rfl ?_
    refine sf_iconst (v := 2) X dX6_isMark_5 sf_ic_2 rfl ?_
    refine sf_icmp_gt (tgt := 13) X dX6_isMark_6 rfl rfl (fun c2 => ?_) (fun c2 => ?_)
    · have h := sf_ift c2 h
      refine sf_iconst (v := 0) X dX6_isMark_13 sf_ic_0 rfl ?_
      exact sf_retz X h rfl dX6_isMark_14
    · have h := sf_iff c2 h
      refine sf_iconst (v := 1) X dX6_isMark_9 sf_ic_1 rfl ?_
      refine sf_goto (tgt := 14) X dX6_isMark_10 rfl ?_
      exact sf_retz X h rfl dX6_isMark_14
def R_X0_areBonded (σ : sf_St) (u0 u1 : Int32) (r : Int32) (τ : sf_St) : Prop :=
  vp_in u0 7 ∧ (vp_in u1 7 ∧ (if (σ (10 + sf_ix u0) (sf_ix u1)) = (0 : Int32) then (r = (0 : Int32) ∧ τ = σ) else (r = (1 : Int32) ∧ τ = σ)))
set_option maxHeartbeats 4000000 in
set_option maxRecDepth 100000 in
theorem c_X0_areBonded {l : Launch} {D : va_G} {q : Nat → Nat} {dA : Nat → ClassId} {tv ta tb : Nat} (hq : sf_inj q KX) {σ τ : sf_St} {u0 u1 : Int32} {r : Int32} (h : R_X0_areBonded σ u0 u1 r τ) : sf_Mi l yX0_areBonded wsX0_areBonded ({ frames := 0, cells := 0, slots := 0, locals := 0 }) D vwCl q dA KX (sf_EX q tv ta tb) [.ref (q 1), .int u0, .int u1] σ r τ := by
  refine sf_meti (cc := cX0_areBonded) (maxL := 3) (ret := (some .boolean)) (own := RX0) (by decide +kernel) rfl rfl hq sf_EXk (Nat.le_of_ble_eq_true rfl) ?_
  intro p e s m args below meth c X
  have hT := X.2.2.2.1.2.1
  unfold R_X0_areBonded at h
  refine sf_loc (lv' := [(0, .ref (q 1)), (1, .int u0), (2, .int u1)]) [0, 1, 2] rfl ?_
  refine sf_aload_n (i := 0) (j := 0) X dX0_areBonded_0 rfl rfl rfl ?_
  refine sf_getR (C := RX0) (T := TX0) (N := 10) (ci := 0) (j := 9) (k' := 9) X (fun w h => sf_memc (inX0 w h)) rfl rfl (by decide) (X.1.2.2.2.2 _ (sf_memc tw_99)) (fun _ h9 => h9) rfl dX0_areBonded_1 rfl ?_
  refine sf_iload_n (i := 1) (j := 1) X dX0_areBonded_4 rfl rfl rfl ?_
  obtain ⟨b1, h⟩ := h
  refine sf_aald (k' := (10 + sf_ix u0)) X rfl b1 (sf_lkR b1) dX0_areBonded_5 rfl ?_
  refine sf_iload_n (i := 2) (j := 2) X dX0_areBonded_6 rfl rfl rfl ?_
  obtain ⟨b2, h⟩ := h
  refine sf_iald X (sf_lkK b1) b2 dX0_areBonded_7 rfl ?_
  refine sf_if_eq (tgt := 15) X dX0_areBonded_8 rfl rfl (fun c3 => ?_) (fun c3 => ?_)
  · have h := sf_ift c3 h
    refine sf_iconst (v := 0) X dX0_areBonded_15 sf_ic_0 rfl ?_
    exact sf_retz X h rfl dX0_areBonded_16
  · have h := sf_iff c3 h
    refine sf_iconst (v := 1) X dX0_areBonded_11 sf_ic_1 rfl ?_
    refine sf_goto (tgt := 16) X dX0_areBonded_12 rfl ?_
    exact sf_retz X h rfl dX0_areBonded_16
def R_X0_orderOf (σ : sf_St) (u0 u1 : Int32) (r : Int32) (τ : sf_St) : Prop :=
  vp_in u0 7 ∧ (vp_in u1 7 ∧ (∀ y3 : Int32, y3 = (σ (10 + sf_ix u0) (sf_ix u1)) → (if y3 = (0 : Int32) then (r = (0 : Int32) ∧ τ = σ) else (vp_in (y3 - (1 : Int32)) 9 ∧ (r = (σ 7 (sf_ix (y3 - (1 : Int32)))) ∧ τ = σ)))))
set_option maxHeartbeats 4000000 in
set_option maxRecDepth 100000 in
theorem c_X0_orderOf {l : Launch} {D : va_G} {q : Nat → Nat} {dA : Nat → ClassId} {tv ta tb : Nat} (hq : sf_inj q KX) {σ τ : sf_St} {u0 u1 : Int32} {r : Int32} (h : R_X0_orderOf σ u0 u1 r τ) : sf_Mi l yX0_orderOf wsX0_orderOf ({ frames := 0, cells := 0, slots := 0, locals := 0 }) D vwCl q dA KX (sf_EX q tv ta tb) [.ref (q 1), .int u0, .int u1] σ r τ := by
  refine sf_meti (cc := cX0_orderOf) (maxL := 4) (ret := (some .int)) (own := RX0) (by decide +kernel) rfl rfl hq sf_EXk (Nat.le_of_ble_eq_true rfl) ?_
  intro p e s m args below meth c X
  have hT := X.2.2.2.1.2.1
  unfold R_X0_orderOf at h
  refine sf_loc (lv' := [(0, .ref (q 1)), (1, .int u0), (2, .int u1)]) [0, 1, 2] rfl ?_
  refine sf_aload_n (i := 0) (j := 0) X dX0_orderOf_0 rfl rfl rfl ?_
  refine sf_getR (C := RX0) (T := TX0) (N := 10) (ci := 0) (j := 9) (k' := 9) X (fun w h => sf_memc (inX0 w h)) rfl rfl (by decide) (X.1.2.2.2.2 _ (sf_memc tw_99)) (fun _ h9 => h9) rfl dX0_orderOf_1 rfl ?_
  refine sf_iload_n (i := 1) (j := 1) X dX0_orderOf_4 rfl rfl rfl ?_
  obtain ⟨b1, h⟩ := h
  refine sf_aald (k' := (10 + sf_ix u0)) X rfl b1 (sf_lkR b1) dX0_orderOf_5 rfl ?_
  refine sf_iload_n (i := 2) (j := 2) X dX0_orderOf_6 rfl rfl rfl ?_
  obtain ⟨b2, h⟩ := h
  refine sf_iald X (sf_lkK b1) b2 dX0_orderOf_7 rfl ?_
  refine sf_top (fun y3 hy3 => ?_)
  have h := h y3 hy3
  refine sf_istore_n (i := 3) (lv' := [(3, .int y3), (0, .ref (q 1)), (1, .int u0), (2, .int u1)]) X dX0_orderOf_8 rfl (by decide) rfl rfl ?_
  refine sf_iload_n (i := 3) (j := 0) X dX0_orderOf_9 rfl rfl rfl ?_
  refine sf_if_eq (tgt := 24) X dX0_orderOf_10 rfl rfl (fun c4 => ?_) (fun c4 => ?_)
  · have h := sf_ift c4 h
    refine sf_iconst (v := 0) X dX0_orderOf_24 sf_ic_0 rfl ?_
    exact sf_reti X h dX0_orderOf_25
  · have h := sf_iff c4 h
    refine sf_aload_n (i := 0) (j := 1) X dX0_orderOf_13 rfl rfl rfl ?_
    refine sf_getR (C := RX0) (T := TX0) (N := 10) (ci := 0) (j := 6) (k' := 7) X (fun w h => sf_memc (inX0 w h)) rfl rfl (by decide) (X.1.2.2.2.2 _ (sf_memc tw_93)) (fun _ h9 => h9) rfl dX0_orderOf_14 rfl ?_
    refine sf_iload_n (i := 3) (j := 0) X dX0_orderOf_17 rfl rfl rfl ?_
    refine sf_iconst (v := 1) X dX0_orderOf_18 sf_ic_1 rfl ?_
    refine sf_isub X dX0_orderOf_19 rfl ?_
    obtain ⟨b5, h⟩ := h
    refine sf_iald X rfl b5 dX0_orderOf_20 rfl ?_
    refine sf_goto (tgt := 25) X dX0_orderOf_21 rfl ?_
    exact sf_reti X h dX0_orderOf_25
def tr_R_X0_freeValence_0 (Pr : Nat → sf_St → Int32 → Int32 → Int32 → Prop) (r : Int32) (τ : sf_St) (σ : sf_St) (u0 u1 u2 : Int32) : Prop :=
  vp_in u0 7 ∧ (vp_in (σ 2 (sf_ix u0)) 6 ∧ (∀ y3 : Int32, y3 = (sf_val (σ 2 (sf_ix u0))) → (Pr 1 σ u0 y3 (0 : Int32))))
def tr_R_X0_freeValence_1 (Pr : Nat → sf_St → Int32 → Int32 → Int32 → Prop) (r : Int32) (τ : sf_St) (σ : sf_St) (u0 u1 u2 : Int32) : Prop :=
  if (σ 1 3) ≤ u2 then (r = u1 ∧ τ = σ) else (∃ (r7 : Int32) (τ6 : sf_St), R_X0_orderOf σ u0 u2 r7 τ6 ∧ (∀ y8 : Int32, y8 = (u1 - r7) → (∀ y9 : Int32, y9 = u2 + (1 : Int32) → (Pr 1 τ6 u0 y8 y9))))
def fn_R_X0_freeValence (Pr : Nat → sf_St → Int32 → Int32 → Int32 → Prop) (r : Int32) (τ : sf_St) (t : Nat) (σ : sf_St) (u0 u1 u2 : Int32) : Prop := match t with
  | 0 => tr_R_X0_freeValence_0 Pr r τ σ u0 u1 u2
  | 1 => tr_R_X0_freeValence_1 Pr r τ σ u0 u1 u2
  | _ => False
def Rn_R_X0_freeValence (t : Nat) (σ : sf_St) (u0 u1 u2 : Int32) (r : Int32) (τ : sf_St) : Prop := ∀ Pr : Nat → sf_St → Int32 → Int32 → Int32 → Prop, (∀ (t : Nat) (σ : sf_St) (u0 u1 u2 : Int32), fn_R_X0_freeValence Pr r τ t σ u0 u1 u2 → Pr t σ u0 u1 u2) → Pr t σ u0 u1 u2
def R_X0_freeValence (σ : sf_St) (u0 : Int32) (r : Int32) (τ : sf_St) : Prop := Rn_R_X0_freeValence 0 σ u0 0 0 r τ
theorem fe_R_X0_freeValence_0 {Pr : Nat → sf_St → Int32 → Int32 → Int32 → Prop} {r : Int32} {τ σ : sf_St} {u0 u1 u2 : Int32} (h : fn_R_X0_freeValence Pr r τ 0 σ u0 u1 u2) : tr_R_X0_freeValence_0 Pr r τ σ u0 u1 u2 := h
theorem mo_R_X0_freeValence_0 {Pr Pr' : Nat → sf_St → Int32 → Int32 → Int32 → Prop} {r : Int32} {τ σ : sf_St} {u0 u1 u2 : Int32} (hP : ∀ (t : Nat) (σ : sf_St) (u0 u1 u2 : Int32), Pr t σ u0 u1 u2 → Pr' t σ u0 u1 u2) (h : tr_R_X0_freeValence_0 Pr r τ σ u0 u1 u2) : tr_R_X0_freeValence_0 Pr' r τ σ u0 u1 u2 := by
  unfold tr_R_X0_freeValence_0 at h ⊢
  refine And.imp id (fun h => ?_) h
  refine And.imp id (fun h => ?_) h
  intro y3 hy3
  have h := h y3 hy3
  exact hP _ _ _ _ _ h
theorem ru_R_X0_freeValence_0 {r : Int32} {τ σ : sf_St} {u0 u1 u2 : Int32} (h : tr_R_X0_freeValence_0 (fun t σ u0 u1 u2 => Rn_R_X0_freeValence t σ u0 u1 u2 r τ) r τ σ u0 u1 u2) : Rn_R_X0_freeValence 0 σ u0 u1 u2 r τ := fun Pr hP => hP 0 σ u0 u1 u2 (mo_R_X0_freeValence_0 (fun _ _ _ _ _ h => h Pr hP) h)
theorem fe_R_X0_freeValence_1 {Pr : Nat → sf_St → Int32 → Int32 → Int32 → Prop} {r : Int32} {τ σ : sf_St} {u0 u1 u2 : Int32} (h : fn_R_X0_freeValence Pr r τ 1 σ u0 u1 u2) : tr_R_X0_freeValence_1 Pr r τ σ u0 u1 u2 := h
theorem mo_R_X0_freeValence_1 {Pr Pr' : Nat → sf_St → Int32 → Int32 → Int32 → Prop} {r : Int32} {τ σ : sf_St} {u0 u1 u2 : Int32} (hP : ∀ (t : Nat) (σ : sf_St) (u0 u1 u2 : Int32), Pr t σ u0 u1 u2 → Pr' t σ u0 u1 u2) (h : tr_R_X0_freeValence_1 Pr r τ σ u0 u1 u2) : tr_R_X0_freeValence_1 Pr' r τ σ u0 u1 u2 := by
  unfold tr_R_X0_freeValence_1 at h ⊢
  refine sf_mif (fun h => ?_) (fun h => ?_) h
  · exact h
  · refine Exists.imp (fun _ h => Exists.imp (fun _ h => And.imp id (fun h => ?_) h) h) h
    intro y8 hy8
    have h := h y8 hy8
    intro y9 hy9
    have h := h y9 hy9
    exact hP _ _ _ _ _ h
theorem ru_R_X0_freeValence_1 {r : Int32} {τ σ : sf_St} {u0 u1 u2 : Int32} (h : tr_R_X0_freeValence_1 (fun t σ u0 u1 u2 => Rn_R_X0_freeValence t σ u0 u1 u2 r τ) r τ σ u0 u1 u2) : Rn_R_X0_freeValence 1 σ u0 u1 u2 r τ := fun Pr hP => hP 1 σ u0 u1 u2 (mo_R_X0_freeValence_1 (fun _ _ _ _ _ h => h Pr hP) h)
set_option maxHeartbeats 4000000 in
set_option maxRecDepth 100000 in
theorem c_X0_freeValence {l : Launch} {D : va_G} {q : Nat → Nat} {dA : Nat → ClassId} {tv ta tb : Nat} (hq : sf_inj q KX) {σ τ : sf_St} {u0 : Int32} {r : Int32} (h : R_X0_freeValence σ u0 r τ) : sf_Mi l yX0_freeValence wsX0_freeValence ({ frames := 1, cells := 0, slots := 0, locals := 23 }) D vwCl q dA KX (sf_EX q tv ta tb) [.ref (q 1), .int u0] σ r τ := by
  refine sf_meti (cc := cX0_freeValence) (maxL := 4) (ret := (some .int)) (own := RX0) (by decide +kernel) rfl rfl hq sf_EXk (Nat.le_of_ble_eq_true rfl) ?_
  intro p e s m args below meth c X
  have hT := X.2.2.2.1.2.1
  refine sf_loc (lv' := [(0, .ref (q 1)), (1, .int u0)]) [0, 1] rfl ?_
  refine h (fun t σ u0 u1 u2 => match t with
    | 0 => sf_G p l e (headSpec wsX0_freeValence ({ frames := 1, cells := 0, slots := 0, locals := 23 })).room s m args below meth c (sf_Qi D vwCl q dA KX (sf_EX q tv ta tb) below args s r τ) 4 D vwCl q dA KX σ 0 [(0, .ref (q 1)), (1, .int u0)] []
    | 1 => sf_G p l e (headSpec wsX0_freeValence ({ frames := 1, cells := 0, slots := 0, locals := 23 })).room s m args below meth c (sf_Qi D vwCl q dA KX (sf_EX q tv ta tb) below args s r τ) 4 D vwCl q dA KX σ 13 [(0, .ref (q 1)), (1, .int u0), (2, .int u1), (3, .int u2)] []
    | _ => True) ?_
  intro t σ u0 u1 u2 h
  match t, h with
  | 0, h =>
      replace h := fe_R_X0_freeValence_0 h
      unfold tr_R_X0_freeValence_0 at h
      show sf_G p l e (headSpec wsX0_freeValence ({ frames := 1, cells := 0, slots := 0, locals := 23 })).room s m args below meth c (sf_Qi D vwCl q dA KX (sf_EX q tv ta tb) below args s r τ) 4 D vwCl q dA KX σ 0 [(0, .ref (q 1)), (1, .int u0)] []
      refine sf_getsN (v := .ref tv) X X.2.2.2.1.1 (va_Nw.use rfl (X.2.2.2.1.2.2.1 _ (List.mem_of_getElem? (i := 0) rfl))) (fun _ h9 => h9) dX0_freeValence_0 rfl ?_
      refine sf_aload_n (i := 0) (j := 0) X dX0_freeValence_3 rfl rfl rfl ?_
      refine sf_getR (C := RX0) (T := TX0) (N := 10) (ci := 0) (j := 0) (k' := 2) X (fun w h => sf_memc (inX0 w h)) rfl rfl (by decide) (X.1.2.2.2.2 _ (sf_memc tw_72)) (fun _ h9 => h9) rfl dX0_freeValence_4 rfl ?_
      refine sf_iload_n (i := 1) (j := 1) X dX0_freeValence_7 rfl rfl rfl ?_
      obtain ⟨b1, h⟩ := h
      refine sf_iald X rfl b1 dX0_freeValence_8 rfl ?_
      obtain ⟨b2, h⟩ := h
      refine sf_ti (v := sf_val (σ 2 (sf_ix u0))) X hT b2 rfl dX0_freeValence_9 rfl ?_
      refine sf_top (fun y3 hy3 => ?_)
      have h := h y3 hy3
      refine sf_istore_n (i := 2) (lv' := [(2, .int y3), (0, .ref (q 1)), (1, .int u0)]) X dX0_freeValence_10 rfl (by decide) rfl rfl ?_
      refine sf_iconst (v := 0) X dX0_freeValence_11 sf_ic_0 rfl ?_
      refine sf_istore_n (i := 3) (lv' := [(3, .int (0 : Int32)), (2, .int y3), (0, .ref (q 1)), (1, .int u0)]) X dX0_freeValence_12 rfl (by decide) rfl rfl ?_
      refine sf_loc (lv' := [(0, .ref (q 1)), (1, .int u0), (2, .int y3), (3, .int (0 : Int32))]) [2, 3, 1, 0] rfl ?_
      exact h
  | 1, h =>
      replace h := fe_R_X0_freeValence_1 h
      unfold tr_R_X0_freeValence_1 at h
      show sf_G p l e (headSpec wsX0_freeValence ({ frames := 1, cells := 0, slots := 0, locals := 23 })).room s m args below meth c (sf_Qi D vwCl q dA KX (sf_EX q tv ta tb) below args s r τ) 4 D vwCl q dA KX σ 13 [(0, .ref (q 1)), (1, .int u0), (2, .int u1), (3, .int u2)] []
      refine sf_iload_n (i := 3) (j := 3) X dX0_freeValence_13 rfl rfl rfl ?_
      refine sf_aload_n (i := 0) (j := 0) X dX0_freeValence_14 rfl rfl rfl ?_
      refine sf_getI (C := RX0) (T := TX0) (N := 10) (ci := 0) (j := 3) X (fun w h => sf_memc (inX0 w h)) rfl rfl (by decide) (X.1.2.2.2.2 _ (sf_memc tw_81)) (fun _ h9 => h9) rfl dX0_freeValence_15 rfl ?_
      refine sf_icmp_ge (tgt := 36) X dX0_freeValence_18 rfl rfl (fun c4 => ?_) (fun c4 => ?_)
      · have h := sf_ift c4 h
        refine sf_iload_n (i := 2) (j := 2) X dX0_freeValence_36 rfl rfl rfl ?_
        exact sf_reti X h dX0_freeValence_37
      · have h := sf_iff c4 h
        refine sf_iload_n (i := 2) (j := 2) X dX0_freeValence_21 rfl rfl rfl ?_
        refine sf_aload_n (i := 0) (j := 0) X dX0_freeValence_22 rfl rfl rfl ?_
        refine sf_iload_n (i := 1) (j := 1) X dX0_freeValence_23 rfl rfl rfl ?_
        refine sf_iload_n (i := 3) (j := 3) X dX0_freeValence_24 rfl rfl rfl ?_
        obtain ⟨r7, τ6, hR5, h⟩ := h
        refine sf_callVi (As := [.int u0, .int u2]) (rest := [.int u1]) (cv := (RX0, TX0, 10)) X rfl rfl (c_X0_orderOf hq hR5) (cwV 2 X.1.2.2.2.2 (sf_gV tw_291 tw_292 tw_293 tw_42 tw_294) rfl rfl rfl ⟨rfl, hd_X0_orderOf⟩ ⟨Nat.le_of_ble_eq_true rfl, Nat.le_of_ble_eq_true rfl⟩) rfl rfl (Nat.le_of_ble_eq_true rfl) dX0_freeValence_25 rfl ?_
        refine sf_isub X dX0_freeValence_28 rfl ?_
        refine sf_top (fun y8 hy8 => ?_)
        have h := h y8 hy8
        refine sf_istore_n (i := 2) (lv' := [(2, .int y8), (0, .ref (q 1)), (1, .int u0), (3, .int u2)]) X dX0_freeValence_29 rfl (by decide) rfl rfl ?_
        refine sf_iinc (i := 3) (j := 3) (d := 1) (lv' := fun y9 => [(3, .int y9), (2, .int y8), (0, .ref (q 1)), (1, .int u0)]) X dX0_freeValence_30 rfl sf_ic_1 (by decide) (fun _ => rfl) rfl (fun y9 hy9 => ?_)
        have h := h y9 hy9
        refine sf_goto (tgt := 13) X dX0_freeValence_33 rfl ?_
        refine sf_loc (lv' := [(0, .ref (q 1)), (1, .int u0), (2, .int y8), (3, .int y9)]) [2, 3, 1, 0] rfl ?_
        exact h
  | (_ + 2), _ => exact trivial
def R_X0_addBond (σ : sf_St) (u0 u1 u2 u3 : Int32) (r : Int32) (τ : sf_St) : Prop :=
  ∀ y1 : Int32, y1 = (σ 1 8) → (vp_in y1 9 ∧ (∀ τ3 : sf_St, τ3 = sf_up σ 5 (sf_ix y1) u0 → (vp_in y1 9 ∧ (∀ τ5 : sf_St, τ5 = sf_up τ3 6 (sf_ix y1) u1 → (vp_in y1 9 ∧ (∀ τ7 : sf_St, τ7 = sf_up τ5 7 (sf_ix y1) u2 → (vp_in y1 9 ∧ (∀ τ9 : sf_St, τ9 = sf_up τ7 8 (sf_ix y1) u3 → (∀ τ10 : sf_St, τ10 = sf_up τ9 1 8 ((τ9 1 8) + (1 : Int32)) → (vp_in u0 7 ∧ (vp_in u1 7 ∧ (∀ τ13 : sf_St, τ13 = sf_up τ10 (10 + sf_ix u0) (sf_ix u1) (τ10 1 8) → (vp_in u1 7 ∧ (vp_in u0 7 ∧ (∀ τ16 : sf_St, τ16 = sf_up τ13 (10 + sf_ix u1) (sf_ix u0) (τ13 1 8) → (r = y1 ∧ τ = τ16))))))))))))))))
set_option maxHeartbeats 4000000 in
set_option maxRecDepth 100000 in
theorem c_X0_addBond {l : Launch} {D : va_G} {q : Nat → Nat} {dA : Nat → ClassId} {tv ta tb : Nat} (hq : sf_inj q KX) {σ τ : sf_St} {u0 u1 u2 u3 : Int32} {r : Int32} (h : R_X0_addBond σ u0 u1 u2 u3 r τ) : sf_Mi l yX0_addBond wsX0_addBond ({ frames := 0, cells := 0, slots := 0, locals := 0 }) D vwCl q dA KX (sf_EX q tv ta tb) [.ref (q 1), .int u0, .int u1, .int u2, .int u3] σ r τ := by
  refine sf_meti (cc := cX0_addBond) (maxL := 6) (ret := (some .int)) (own := RX0) (by decide +kernel) rfl rfl hq sf_EXk (Nat.le_of_ble_eq_true rfl) ?_
  intro p e s m args below meth c X
  have hT := X.2.2.2.1.2.1
  unfold R_X0_addBond at h
  refine sf_loc (lv' := [(0, .ref (q 1)), (1, .int u0), (2, .int u1), (3, .int u2), (4, .int u3)]) [0, 1, 2, 3, 4] rfl ?_
  refine sf_aload_n (i := 0) (j := 0) X dX0_addBond_0 rfl rfl rfl ?_
  refine sf_getI (C := RX0) (T := TX0) (N := 10) (ci := 0) (j := 8) X (fun w h => sf_memc (inX0 w h)) rfl rfl (by decide) (X.1.2.2.2.2 _ (sf_memc tw_96)) (fun _ h9 => h9) rfl dX0_addBond_1 rfl ?_
  refine sf_top (fun y1 hy1 => ?_)
  have h := h y1 hy1
  refine sf_istore (i := 5) (lv' := [(5, .int y1), (0, .ref (q 1)), (1, .int u0), (2, .int u1), (3, .int u2), (4, .int u3)]) X dX0_addBond_4 (by decide) rfl rfl ?_
  refine sf_aload_n (i := 0) (j := 1) X dX0_addBond_6 rfl rfl rfl ?_
  refine sf_getR (C := RX0) (T := TX0) (N := 10) (ci := 0) (j := 4) (k' := 5) X (fun w h => sf_memc (inX0 w h)) rfl rfl (by decide) (X.1.2.2.2.2 _ (sf_memc tw_87)) (fun _ h9 => h9) rfl dX0_addBond_7 rfl ?_
  refine sf_iload (i := 5) (j := 0) X dX0_addBond_10 rfl rfl ?_
  refine sf_iload_n (i := 1) (j := 2) X dX0_addBond_12 rfl rfl rfl ?_
  obtain ⟨b2, h⟩ := h
  refine sf_iast X rfl b2 dX0_addBond_13 rfl (fun τ3 hτ3 => ?_)
  have h := h τ3 hτ3
  refine sf_aload_n (i := 0) (j := 1) X dX0_addBond_14 rfl rfl rfl ?_
  refine sf_getR (C := RX0) (T := TX0) (N := 10) (ci := 0) (j := 5) (k' := 6) X (fun w h => sf_memc (inX0 w h)) rfl rfl (by decide) (X.1.2.2.2.2 _ (sf_memc tw_90)) (fun _ h9 => h9) rfl dX0_addBond_15 rfl ?_
  refine sf_iload (i := 5) (j := 0) X dX0_addBond_18 rfl rfl ?_
  refine sf_iload_n (i := 2) (j := 3) X dX0_addBond_20 rfl rfl rfl ?_
  obtain ⟨b4, h⟩ := h
  refine sf_iast X rfl b4 dX0_addBond_21 rfl (fun τ5 hτ5 => ?_)
  have h := h τ5 hτ5
  refine sf_aload_n (i := 0) (j := 1) X dX0_addBond_22 rfl rfl rfl ?_
  refine sf_getR (C := RX0) (T := TX0) (N := 10) (ci := 0) (j := 6) (k' := 7) X (fun w h => sf_memc (inX0 w h)) rfl rfl (by decide) (X.1.2.2.2.2 _ (sf_memc tw_93)) (fun _ h9 => h9) rfl dX0_addBond_23 rfl ?_
  refine sf_iload (i := 5) (j := 0) X dX0_addBond_26 rfl rfl ?_
  refine sf_iload_n (i := 3) (j := 4) X dX0_addBond_28 rfl rfl rfl ?_
  obtain ⟨b6, h⟩ := h
  refine sf_iast X rfl b6 dX0_addBond_29 rfl (fun τ7 hτ7 => ?_)
  have h := h τ7 hτ7
  refine sf_aload_n (i := 0) (j := 1) X dX0_addBond_30 rfl rfl rfl ?_
  refine sf_getR (C := RX0) (T := TX0) (N := 10) (ci := 0) (j := 7) (k' := 8) X (fun w h => sf_memc (inX0 w h)) rfl rfl (by decide) (X.1.2.2.2.2 _ (sf_memc tw_95)) (fun _ h9 => h9) rfl dX0_addBond_31 rfl ?_
  refine sf_iload (i := 5) (j := 0) X dX0_addBond_34 rfl rfl ?_
  refine sf_iload (i := 4) (j := 5) X dX0_addBond_36 rfl rfl ?_
  obtain ⟨b8, h⟩ := h
  refine sf_iast X rfl b8 dX0_addBond_38 rfl (fun τ9 hτ9 => ?_)
  have h := h τ9 hτ9
  refine sf_aload_n (i := 0) (j := 1) X dX0_addBond_39 rfl rfl rfl ?_
  refine sf_dup X dX0_addBond_40 rfl rfl ?_
  refine sf_getI (C := RX0) (T := TX0) (N := 10) (ci := 0) (j := 8) X (fun w h => sf_memc (inX0 w h)) rfl rfl (by decide) (X.1.2.2.2.2 _ (sf_memc tw_96)) (fun _ h9 => h9) rfl dX0_addBond_41 rfl ?_
  refine sf_iconst (v := 1) X dX0_addBond_44 sf_ic_1 rfl ?_
  refine sf_iadd X dX0_addBond_45 rfl ?_
  refine sf_putI (C := RX0) (T := TX0) (N := 10) (ci := 0) (j := 8) (ty := .int) X (fun w h => sf_memc (inX0 w h)) rfl rfl (by decide) (X.1.2.2.2.2 _ (sf_memc tw_96)) (fun _ h9 => h9) tyX0 tyX0_ok nmX0 rfl (by decide +kernel) rfl rfl rfl dX0_addBond_46 rfl (fun τ10 hτ10 => ?_)
  have h := h τ10 hτ10
  refine sf_aload_n (i := 0) (j := 1) X dX0_addBond_49 rfl rfl rfl ?_
  refine sf_getR (C := RX0) (T := TX0) (N := 10) (ci := 0) (j := 9) (k' := 9) X (fun w h => sf_memc (inX0 w h)) rfl rfl (by decide) (X.1.2.2.2.2 _ (sf_memc tw_99)) (fun _ h9 => h9) rfl dX0_addBond_50 rfl ?_
  refine sf_iload_n (i := 1) (j := 2) X dX0_addBond_53 rfl rfl rfl ?_
  obtain ⟨b11, h⟩ := h
  refine sf_aald (k' := (10 + sf_ix u0)) X rfl b11 (sf_lkR b11) dX0_addBond_54 rfl ?_
  refine sf_iload_n (i := 2) (j := 3) X dX0_addBond_55 rfl rfl rfl ?_
  refine sf_aload_n (i := 0) (j := 1) X dX0_addBond_56 rfl rfl rfl ?_
  refine sf_getI (C := RX0) (T := TX0) (N := 10) (ci := 0) (j := 8) X (fun w h => sf_memc (inX0 w h)) rfl rfl (by decide) (X.1.2.2.2.2 _ (sf_memc tw_96)) (fun _ h9 => h9) rfl dX0_addBond_57 rfl ?_
  obtain ⟨b12, h⟩ := h
  refine sf_iast X (sf_lkK b11) b12 dX0_addBond_60 rfl (fun τ13 hτ13 => ?_)
  have h := h τ13 hτ13
  refine sf_aload_n (i := 0) (j := 1) X dX0_addBond_61 rfl rfl rfl ?_
  refine sf_getR (C := RX0) (T := TX0) (N := 10) (ci := 0) (j := 9) (k' := 9) X (fun w h => sf_memc (inX0 w h)) rfl rfl (by decide) (X.1.2.2.2.2 _ (sf_memc tw_99)) (fun _ h9 => h9) rfl dX0_addBond_62 rfl ?_
  refine sf_iload_n (i := 2) (j := 3) X dX0_addBond_65 rfl rfl rfl ?_
  obtain ⟨b14, h⟩ := h
  refine sf_aald (k' := (10 + sf_ix u1)) X rfl b14 (sf_lkR b14) dX0_addBond_66 rfl ?_
  refine sf_iload_n (i := 1) (j := 2) X dX0_addBond_67 rfl rfl rfl ?_
  refine sf_aload_n (i := 0) (j := 1) X dX0_addBond_68 rfl rfl rfl ?_
  refine sf_getI (C := RX0) (T := TX0) (N := 10) (ci := 0) (j := 8) X (fun w h => sf_memc (inX0 w h)) rfl rfl (by decide) (X.1.2.2.2.2 _ (sf_memc tw_96)) (fun _ h9 => h9) rfl dX0_addBond_69 rfl ?_
  obtain ⟨b15, h⟩ := h
  refine sf_iast X (sf_lkK b14) b15 dX0_addBond_72 rfl (fun τ16 hτ16 => ?_)
  have h := h τ16 hτ16
  refine sf_iload (i := 5) (j := 0) X dX0_addBond_73 rfl rfl ?_
  exact sf_reti X h dX0_addBond_75
def R_X6_bond (σ : sf_St) (u0 u1 u2 u3 : Int32) (r : Int32) (τ : sf_St) : Prop :=
  ∃ (r3 : Int32) (τ2 : sf_St), R_X0_hasAtom σ u0 r3 τ2 ∧ (if r3 = (0 : Int32) then (r = (-1 : Int32) ∧ τ = τ2) else (∃ (r7 : Int32) (τ6 : sf_St), R_X0_hasAtom τ2 u1 r7 τ6 ∧ (if r7 = (0 : Int32) then (r = (-1 : Int32) ∧ τ = τ6) else (if u0 = u1 then (r = (-1 : Int32) ∧ τ = τ6) else (if u2 < (1 : Int32) then (r = (-1 : Int32) ∧ τ = τ6) else (if (3 : Int32) < u2 then (r = (-1 : Int32) ∧ τ = τ6) else (∃ (r14 : Int32) (τ13 : sf_St), R_X6_isMark τ6 u3 r14 τ13 ∧ (if r14 = (0 : Int32) then (r = (-1 : Int32) ∧ τ = τ13) else (∃ (r18 : Int32) (τ17 : sf_St), R_X0_areBonded τ13 u0 u1 r18 τ17 ∧ (if r18 = (0 : Int32) then (if (τ17 1 8) < (9 : Int32) then (∃ (r23 : Int32) (τ22 : sf_St), R_X0_freeValence τ17 u0 r23 τ22 ∧ (if r23 < u2 then (r = (-3 : Int32) ∧ τ = τ22) else (∃ (r27 : Int32) (τ26 : sf_St), R_X0_freeValence τ22 u1 r27 τ26 ∧ (if u2 ≤ r27 then (∀ τ29 : sf_St, τ29 = sf_up τ26 0 10 (0 : Int32) → (∃ (r32 : Int32) (τ31 : sf_St), R_X0_addBond τ29 u0 u1 u2 u3 r32 τ31 ∧ (r = r32 ∧ τ = τ31))) else (r = (-3 : Int32) ∧ τ = τ26))))) else (r = (-2 : Int32) ∧ τ = τ17)) else (r = (-1 : Int32) ∧ τ = τ17)))))))))))
set_option maxHeartbeats 4000000 in
set_option maxRecDepth 100000 in
theorem c_X6_bond {l : Launch} {D : va_G} {q : Nat → Nat} {dA : Nat → ClassId} {tv ta tb : Nat} (hq : sf_inj q KX) {σ τ : sf_St} {u0 u1 u2 u3 : Int32} {r : Int32} (h : R_X6_bond σ u0 u1 u2 u3 r τ) : sf_Mi l yX6_bond wsX6_bond ({ frames := 2, cells := 0, slots := 0, locals := 46 }) D vwCl q dA KX (sf_EX q tv ta tb) [.ref (q 0), .int u0, .int u1, .int u2, .int u3] σ r τ := by
  refine sf_meti (cc := cX6_bond) (maxL := 5) (ret := (some .int)) (own := RX6) (by decide +kernel) rfl rfl hq sf_EXk (Nat.le_of_ble_eq_true rfl) ?_
  intro p e s m args below meth c X
  have hT := X.2.2.2.1.2.1
  unfold R_X6_bond at h
  refine sf_loc (lv' := [(0, .ref (q 0)), (1, .int u0), (2, .int u1), (3, .int u2), (4, .int u3)]) [0, 1, 2, 3, 4] rfl ?_
  refine sf_aload_n (i := 0) (j := 0) X dX6_bond_0 rfl rfl rfl ?_
  refine sf_getR (C := RX6) (T := TX6) (N := 11) (ci := 6) (j := 0) (k' := 1) X (fun w h => sf_memc (inX6 w h)) rfl rfl (by decide) (X.1.2.2.2.2 _ (sf_memc tw_224)) (fun _ h9 => h9) rfl dX6_bond_1 rfl ?_
  refine sf_iload_n (i := 1) (j := 1) X dX6_bond_4 rfl rfl rfl ?_
  obtain ⟨r3, τ2, hR1, h⟩ := h
  refine sf_callVi (As := [.int u0]) (rest := []) (cv := (RX0, TX0, 10)) X rfl rfl (c_X0_hasAtom hq hR1) (cwV 1 X.1.2.2.2.2 (sf_gV tw_275 tw_276 tw_277 tw_42 tw_278) rfl rfl rfl ⟨rfl, hd_X0_hasAtom⟩ ⟨Nat.le_of_ble_eq_true rfl, Nat.le_of_ble_eq_true rfl⟩) rfl rfl (Nat.le_of_ble_eq_true rfl) dX6_bond_5 rfl ?_
  refine sf_if_eq (tgt := 27) X dX6_bond_8 rfl rfl (fun c4 => ?_) (fun c4 => ?_)
  · have h := sf_ift c4 h
    refine sf_iconst (v := (-1)) X dX6_bond_27 sf_ic_m1 rfl ?_
    exact sf_reti X h dX6_bond_28
  · have h := sf_iff c4 h
    refine sf_aload_n (i := 0) (j := 0) X dX6_bond_11 rfl rfl rfl ?_
    refine sf_getR (C := RX6) (T := TX6) (N := 11) (ci := 6) (j := 0) (k' := 1) X (fun w h => sf_memc (inX6 w h)) rfl rfl (by decide) (X.1.2.2.2.2 _ (sf_memc tw_224)) (fun _ h9 => h9) rfl dX6_bond_12 rfl ?_
    refine sf_iload_n (i := 2) (j := 2) X dX6_bond_15 rfl rfl rfl ?_
    obtain ⟨r7, τ6, hR5, h⟩ := h
    refine sf_callVi (As := [.int u1]) (rest := []) (cv := (RX0, TX0, 10)) X rfl rfl (c_X0_hasAtom hq hR5) (cwV 1 X.1.2.2.2.2 (sf_gV tw_275 tw_276 tw_277 tw_42 tw_278) rfl rfl rfl ⟨rfl, hd_X0_hasAtom⟩ ⟨Nat.le_of_ble_eq_true rfl, Nat.le_of_ble_eq_true rfl⟩) rfl rfl (Nat.le_of_ble_eq_true rfl) dX6_bond_16 rfl ?_
    refine sf_if_eq (tgt := 27) X dX6_bond_19 rfl rfl (fun c8 => ?_) (fun c8 => ?_)
    · have h := sf_ift c8 h
      refine sf_iconst (v := (-1)) X dX6_bond_27 sf_ic_m1 rfl ?_
      exact sf_reti X h dX6_bond_28
    · have h := sf_iff c8 h
      refine sf_iload_n (i := 1) (j := 1) X dX6_bond_22 rfl rfl rfl ?_
      refine sf_iload_n (i := 2) (j := 2) X dX6_bond_23 rfl rfl rfl ?_
      refine sf_icmp_ne (tgt := 29) X dX6_bond_24 rfl rfl (fun c9 => ?_) (fun c9 => ?_)
      · have h := sf_iff c9 h
        refine sf_iload_n (i := 3) (j := 3) X dX6_bond_29 rfl rfl rfl ?_
        refine sf_iconst (v := 1) X dX6_bond_30 sf_ic_1 rfl ?_
        refine sf_icmp_lt (tgt := 59) X dX6_bond_31 rfl rfl (fun c10 => ?_) (fun c10 => ?_)
        · have h := sf_ift c10 h
          refine sf_iconst (v := (-1)) X dX6_bond_59 sf_ic_m1 rfl ?_
          exact sf_reti X h dX6_bond_60
        · have h := sf_iff c10 h
          refine sf_iload_n (i := 3) (j := 3) X dX6_bond_34 rfl rfl rfl ?_
          refine sf_iconst (v := 3) X dX6_bond_35 sf_ic_3 rfl ?_
          refine sf_icmp_gt (tgt := 59) X dX6_bond_36 rfl rfl (fun c11 => ?_) (fun c11 => ?_)
          · have h := sf_ift c11 h
            refine sf_iconst (v := (-1)) X dX6_bond_59 sf_ic_m1 rfl ?_
            exact sf_reti X h dX6_bond_60
          · have h := sf_iff c11 h
            refine sf_iload (i := 4) (j := 4) X dX6_bond_39 rfl rfl ?_
            obtain ⟨r14, τ13, hR12, h⟩ := h
            refine sf_callSi (As := [.int u3]) (rest := []) X (c_X6_isMark hq hR12) (va_cwS 1 X.1.2.2.2.2 (sf_gS tw_279 tw_280 tw_41 tw_281) rfl rfl rfl hd_X6_isMark ⟨Nat.le_of_ble_eq_true rfl, Nat.le_of_ble_eq_true rfl⟩) rfl rfl (Nat.le_of_ble_eq_true rfl) dX6_bond_41 rfl ?_
            refine sf_if_eq (tgt := 59) X dX6_bond_44 rfl rfl (fun c15 => ?_) (fun c15 => ?_)
            · have h := sf_ift c15 h
              refine sf_iconst (v := (-1)) X dX6_bond_59 sf_ic_m1 rfl ?_
              exact sf_reti X h dX6_bond_60
            · have h := sf_iff c15 h
              refine sf_aload_n (i := 0) (j := 0) X dX6_bond_47 rfl rfl rfl ?_
              refine sf_getR (C := RX6) (T := TX6) (N := 11) (ci := 6) (j := 0) (k' := 1) X (fun w h => sf_memc (inX6 w h)) rfl rfl (by decide) (X.1.2.2.2.2 _ (sf_memc tw_224)) (fun _ h9 => h9) rfl dX6_bond_48 rfl ?_
              refine sf_iload_n (i := 1) (j := 1) X dX6_bond_51 rfl rfl rfl ?_
              refine sf_iload_n (i := 2) (j := 2) X dX6_bond_52 rfl rfl rfl ?_
              obtain ⟨r18, τ17, hR16, h⟩ := h
              refine sf_callVi (As := [.int u0, .int u1]) (rest := []) (cv := (RX0, TX0, 10)) X rfl rfl (c_X0_areBonded hq hR16) (cwV 2 X.1.2.2.2.2 (sf_gV tw_282 tw_283 tw_284 tw_42 tw_285) rfl rfl rfl ⟨rfl, hd_X0_areBonded⟩ ⟨Nat.le_of_ble_eq_true rfl, Nat.le_of_ble_eq_true rfl⟩) rfl rfl (Nat.le_of_ble_eq_true rfl) dX6_bond_53 rfl ?_
              refine sf_if_eq (tgt := 61) X dX6_bond_56 rfl rfl (fun c19 => ?_) (fun c19 => ?_)
              · have h := sf_ift c19 h
                refine sf_aload_n (i := 0) (j := 0) X dX6_bond_61 rfl rfl rfl ?_
                refine sf_getR (C := RX6) (T := TX6) (N := 11) (ci := 6) (j := 0) (k' := 1) X (fun w h => sf_memc (inX6 w h)) rfl rfl (by decide) (X.1.2.2.2.2 _ (sf_memc tw_224)) (fun _ h9 => h9) rfl dX6_bond_62 rfl ?_
                refine sf_getI (C := RX0) (T := TX0) (N := 10) (ci := 0) (j := 8) X (fun w h => sf_memc (inX0 w h)) rfl rfl (by decide) (X.1.2.2.2.2 _ (sf_memc tw_98)) (fun _ h9 => h9) rfl dX6_bond_65 rfl ?_
                refine sf_bipush (v := 9) X dX6_bond_68 sf_bc_9 rfl ?_
                refine sf_icmp_lt (tgt := 76) X dX6_bond_70 rfl rfl (fun c20 => ?_) (fun c20 => ?_)
                · have h := sf_ift c20 h
                  refine sf_iload_n (i := 3) (j := 3) X dX6_bond_76 rfl rfl rfl ?_
                  refine sf_aload_n (i := 0) (j := 0) X dX6_bond_77 rfl rfl rfl ?_
                  refine sf_getR (C := RX6) (T := TX6) (N := 11) (ci := 6) (j := 0) (k' := 1) X (fun w h => sf_memc (inX6 w h)) rfl rfl (by decide) (X.1.2.2.2.2 _ (sf_memc tw_224)) (fun _ h9 => h9) rfl dX6_bond_78 rfl ?_
                  refine sf_iload_n (i := 1) (j := 1) X dX6_bond_81 rfl rfl rfl ?_
                  obtain ⟨r23, τ22, hR21, h⟩ := h
                  refine sf_callVi (As := [.int u0]) (rest := [.int u2]) (cv := (RX0, TX0, 10)) X rfl rfl (c_X0_freeValence hq hR21) (cwV 1 X.1.2.2.2.2 (sf_gV tw_286 tw_287 tw_288 tw_42 tw_289) rfl rfl rfl ⟨rfl, hd_X0_freeValence⟩ ⟨Nat.le_of_ble_eq_true rfl, Nat.le_of_ble_eq_true rfl⟩) rfl rfl (Nat.le_of_ble_eq_true rfl) dX6_bond_82 rfl ?_
                  refine sf_icmp_gt (tgt := 100) X dX6_bond_85 rfl rfl (fun c24 => ?_) (fun c24 => ?_)
                  · have h := sf_ift c24 h
                    refine sf_bipush (v := (-3)) X dX6_bond_100 sf_bc_m3 rfl ?_
                    exact sf_reti X h dX6_bond_102
                  · have h := sf_iff c24 h
                    refine sf_iload_n (i := 3) (j := 3) X dX6_bond_88 rfl rfl rfl ?_
                    refine sf_aload_n (i := 0) (j := 0) X dX6_bond_89 rfl rfl rfl ?_
                    refine sf_getR (C := RX6) (T := TX6) (N := 11) (ci := 6) (j := 0) (k' := 1) X (fun w h => sf_memc (inX6 w h)) rfl rfl (by decide) (X.1.2.2.2.2 _ (sf_memc tw_224)) (fun _ h9 => h9) rfl dX6_bond_90 rfl ?_
                    refine sf_iload_n (i := 2) (j := 2) X dX6_bond_93 rfl rfl rfl ?_
                    obtain ⟨r27, τ26, hR25, h⟩ := h
                    refine sf_callVi (As := [.int u1]) (rest := [.int u2]) (cv := (RX0, TX0, 10)) X rfl rfl (c_X0_freeValence hq hR25) (cwV 1 X.1.2.2.2.2 (sf_gV tw_286 tw_287 tw_288 tw_42 tw_289) rfl rfl rfl ⟨rfl, hd_X0_freeValence⟩ ⟨Nat.le_of_ble_eq_true rfl, Nat.le_of_ble_eq_true rfl⟩) rfl rfl (Nat.le_of_ble_eq_true rfl) dX6_bond_94 rfl ?_
                    refine sf_icmp_le (tgt := 103) X dX6_bond_97 rfl rfl (fun c28 => ?_) (fun c28 => ?_)
                    · have h := sf_ift c28 h
                      refine sf_aload_n (i := 0) (j := 0) X dX6_bond_103 rfl rfl rfl ?_
                      refine sf_iconst (v := 0) X dX6_bond_104 sf_ic_0 rfl ?_
                      refine sf_putI (C := RX6) (T := TX6) (N := 11) (ci := 6) (j := 10) (ty := .boolean) X (fun w h => sf_memc (inX6 w h)) rfl rfl (by decide) (X.1.2.2.2.2 _ (sf_memc tw_234)) (fun _ h9 => h9) tyX6 tyX6_ok nmX6 rfl (by decide +kernel) rfl rfl rfl dX6_bond_105 rfl (fun τ29 hτ29 => ?_)
                      have h := h τ29 hτ29
                      refine sf_aload_n (i := 0) (j := 0) X dX6_bond_108 rfl rfl rfl ?_
                      refine sf_getR (C := RX6) (T := TX6) (N := 11) (ci := 6) (j := 0) (k' := 1) X (fun w h => sf_memc (inX6 w h)) rfl rfl (by decide) (X.1.2.2.2.2 _ (sf_memc tw_224)) (fun _ h9 => h9) rfl dX6_bond_109 rfl ?_
                      refine sf_iload_n (i := 1) (j := 1) X dX6_bond_112 rfl rfl rfl ?_
                      refine sf_iload_n (i := 2) (j := 2) X dX6_bond_113 rfl rfl rfl ?_
                      refine sf_iload_n (i := 3) (j := 3) X dX6_bond_114 rfl rfl rfl ?_
                      refine sf_iload (i := 4) (j := 4) X dX6_bond_115 rfl rfl ?_
                      obtain ⟨r32, τ31, hR30, h⟩ := h
                      refine sf_callVi (As := [.int u0, .int u1, .int u2, .int u3]) (rest := []) (cv := (RX0, TX0, 10)) X rfl rfl (c_X0_addBond hq hR30) (cwV 4 X.1.2.2.2.2 (sf_gV tw_295 tw_296 tw_297 tw_42 tw_298) rfl rfl rfl ⟨rfl, hd_X0_addBond⟩ ⟨Nat.le_of_ble_eq_true rfl, Nat.le_of_ble_eq_true rfl⟩) rfl rfl (Nat.le_of_ble_eq_true rfl) dX6_bond_117 rfl ?_
                      exact sf_reti X h dX6_bond_120
                    · have h := sf_iff c28 h
                      refine sf_bipush (v := (-3)) X dX6_bond_100 sf_bc_m3 rfl ?_
                      exact sf_reti X h dX6_bond_102
                · have h := sf_iff c20 h
                  refine sf_bipush (v := (-2)) X dX6_bond_73 sf_bc_m2 rfl ?_
                  exact sf_reti X h dX6_bond_75
              · have h := sf_iff c19 h
                refine sf_iconst (v := (-1)) X dX6_bond_59 sf_ic_m1 rfl ?_
                exact sf_reti X h dX6_bond_60
      · have h := sf_ift c9 h
        refine sf_iconst (v := (-1)) X dX6_bond_27 sf_ic_m1 rfl ?_
        exact sf_reti X h dX6_bond_28
def R_X6_move (σ : sf_St) (u0 u1 u2 : Int32) (r : Int32) (τ : sf_St) : Prop :=
  ∃ (r3 : Int32) (τ2 : sf_St), R_X0_hasAtom σ u0 r3 τ2 ∧ (if r3 = (0 : Int32) then (r = (0 : Int32) ∧ τ = τ2) else (∃ (r7 : Int32) (τ6 : sf_St), R_X6_isPlace τ2 u1 u2 r7 τ6 ∧ (if r7 = (0 : Int32) then (r = (0 : Int32) ∧ τ = τ6) else (∀ τ9 : sf_St, τ9 = sf_up τ6 0 10 (0 : Int32) → (vp_in u0 7 ∧ (∀ τ11 : sf_St, τ11 = sf_up τ9 3 (sf_ix u0) u1 → (vp_in u0 7 ∧ (∀ τ13 : sf_St, τ13 = sf_up τ11 4 (sf_ix u0) u2 → (r = (1 : Int32) ∧ τ = τ13)))))))))
set_option maxHeartbeats 4000000 in
set_option maxRecDepth 100000 in
theorem c_X6_move {l : Launch} {D : va_G} {q : Nat → Nat} {dA : Nat → ClassId} {tv ta tb : Nat} (hq : sf_inj q KX) {σ τ : sf_St} {u0 u1 u2 : Int32} {r : Int32} (h : R_X6_move σ u0 u1 u2 r τ) : sf_Mi l yX6_move wsX6_move ({ frames := 1, cells := 0, slots := 0, locals := 21 }) D vwCl q dA KX (sf_EX q tv ta tb) [.ref (q 0), .int u0, .int u1, .int u2] σ r τ := by
  refine sf_meti (cc := cX6_move) (maxL := 4) (ret := (some .boolean)) (own := RX6) (by decide +kernel) rfl rfl hq sf_EXk (Nat.le_of_ble_eq_true rfl) ?_
  intro p e s m args below meth c X
  have hT := X.2.2.2.1.2.1
  unfold R_X6_move at h
  refine sf_loc (lv' := [(0, .ref (q 0)), (1, .int u0), (2, .int u1), (3, .int u2)]) [0, 1, 2, 3] rfl ?_
  refine sf_aload_n (i := 0) (j := 0) X dX6_move_0 rfl rfl rfl ?_
  refine sf_getR (C := RX6) (T := TX6) (N := 11) (ci := 6) (j := 0) (k' := 1) X (fun w h => sf_memc (inX6 w h)) rfl rfl (by decide) (X.1.2.2.2.2 _ (sf_memc tw_224)) (fun _ h9 => h9) rfl dX6_move_1 rfl ?_
  refine sf_iload_n (i := 1) (j := 1) X dX6_move_4 rfl rfl rfl ?_
  obtain ⟨r3, τ2, hR1, h⟩ := h
  refine sf_callVi (As := [.int u0]) (rest := []) (cv := (RX0, TX0, 10)) X rfl rfl (c_X0_hasAtom hq hR1) (cwV 1 X.1.2.2.2.2 (sf_gV tw_275 tw_276 tw_277 tw_42 tw_278) rfl rfl rfl ⟨rfl, hd_X0_hasAtom⟩ ⟨Nat.le_of_ble_eq_true rfl, Nat.le_of_ble_eq_true rfl⟩) rfl rfl (Nat.le_of_ble_eq_true rfl) dX6_move_5 rfl ?_
  refine sf_if_eq (tgt := 19) X dX6_move_8 rfl rfl (fun c4 => ?_) (fun c4 => ?_)
  · have h := sf_ift c4 h
    refine sf_iconst (v := 0) X dX6_move_19 sf_ic_0 rfl ?_
    exact sf_retz X h rfl dX6_move_20
  · have h := sf_iff c4 h
    refine sf_iload_n (i := 2) (j := 2) X dX6_move_11 rfl rfl rfl ?_
    refine sf_iload_n (i := 3) (j := 3) X dX6_move_12 rfl rfl rfl ?_
    obtain ⟨r7, τ6, hR5, h⟩ := h
    refine sf_callSi (As := [.int u1, .int u2]) (rest := []) X (c_X6_isPlace hq hR5) (va_cwS 2 X.1.2.2.2.2 (sf_gS tw_264 tw_265 tw_41 tw_266) rfl rfl rfl hd_X6_isPlace ⟨Nat.le_of_ble_eq_true rfl, Nat.le_of_ble_eq_true rfl⟩) rfl rfl (Nat.le_of_ble_eq_true rfl) dX6_move_13 rfl ?_
    refine sf_if_ne (tgt := 21) X dX6_move_16 rfl rfl (fun c8 => ?_) (fun c8 => ?_)
    · have h := sf_iff c8 h
      refine sf_aload_n (i := 0) (j := 0) X dX6_move_21 rfl rfl rfl ?_
      refine sf_iconst (v := 0) X dX6_move_22 sf_ic_0 rfl ?_
      refine sf_putI (C := RX6) (T := TX6) (N := 11) (ci := 6) (j := 10) (ty := .boolean) X (fun w h => sf_memc (inX6 w h)) rfl rfl (by decide) (X.1.2.2.2.2 _ (sf_memc tw_234)) (fun _ h9 => h9) tyX6 tyX6_ok nmX6 rfl (by decide +kernel) rfl rfl rfl dX6_move_23 rfl (fun τ9 hτ9 => ?_)
      have h := h τ9 hτ9
      refine sf_aload_n (i := 0) (j := 0) X dX6_move_26 rfl rfl rfl ?_
      refine sf_getR (C := RX6) (T := TX6) (N := 11) (ci := 6) (j := 0) (k' := 1) X (fun w h => sf_memc (inX6 w h)) rfl rfl (by decide) (X.1.2.2.2.2 _ (sf_memc tw_224)) (fun _ h9 => h9) rfl dX6_move_27 rfl ?_
      refine sf_getR (C := RX0) (T := TX0) (N := 10) (ci := 0) (j := 1) (k' := 3) X (fun w h => sf_memc (inX0 w h)) rfl rfl (by decide) (X.1.2.2.2.2 _ (sf_memc tw_76)) (fun _ h9 => h9) rfl dX6_move_30 rfl ?_
      refine sf_iload_n (i := 1) (j := 1) X dX6_move_33 rfl rfl rfl ?_
      refine sf_iload_n (i := 2) (j := 2) X dX6_move_34 rfl rfl rfl ?_
      obtain ⟨b10, h⟩ := h
      refine sf_iast X rfl b10 dX6_move_35 rfl (fun τ11 hτ11 => ?_)
      have h := h τ11 hτ11
      refine sf_aload_n (i := 0) (j := 0) X dX6_move_36 rfl rfl rfl ?_
      refine sf_getR (C := RX6) (T := TX6) (N := 11) (ci := 6) (j := 0) (k' := 1) X (fun w h => sf_memc (inX6 w h)) rfl rfl (by decide) (X.1.2.2.2.2 _ (sf_memc tw_224)) (fun _ h9 => h9) rfl dX6_move_37 rfl ?_
      refine sf_getR (C := RX0) (T := TX0) (N := 10) (ci := 0) (j := 2) (k' := 4) X (fun w h => sf_memc (inX0 w h)) rfl rfl (by decide) (X.1.2.2.2.2 _ (sf_memc tw_79)) (fun _ h9 => h9) rfl dX6_move_40 rfl ?_
      refine sf_iload_n (i := 1) (j := 1) X dX6_move_43 rfl rfl rfl ?_
      refine sf_iload_n (i := 3) (j := 3) X dX6_move_44 rfl rfl rfl ?_
      obtain ⟨b12, h⟩ := h
      refine sf_iast X rfl b12 dX6_move_45 rfl (fun τ13 hτ13 => ?_)
      have h := h τ13 hτ13
      refine sf_iconst (v := 1) X dX6_move_46 sf_ic_1 rfl ?_
      exact sf_retz X h rfl dX6_move_47
    · have h := sf_ift c8 h
      refine sf_iconst (v := 0) X dX6_move_19 sf_ic_0 rfl ?_
      exact sf_retz X h rfl dX6_move_20
def R_X0_hasBond (σ : sf_St) (u0 : Int32) (r : Int32) (τ : sf_St) : Prop :=
  if u0 < (0 : Int32) then (r = (0 : Int32) ∧ τ = σ) else (if (σ 1 8) ≤ u0 then (r = (0 : Int32) ∧ τ = σ) else (r = (1 : Int32) ∧ τ = σ))
set_option maxHeartbeats 4000000 in
set_option maxRecDepth 100000 in
theorem c_X0_hasBond {l : Launch} {D : va_G} {q : Nat → Nat} {dA : Nat → ClassId} {tv ta tb : Nat} (hq : sf_inj q KX) {σ τ : sf_St} {u0 : Int32} {r : Int32} (h : R_X0_hasBond σ u0 r τ) : sf_Mi l yX0_hasBond wsX0_hasBond ({ frames := 0, cells := 0, slots := 0, locals := 0 }) D vwCl q dA KX (sf_EX q tv ta tb) [.ref (q 1), .int u0] σ r τ := by
  refine sf_meti (cc := cX0_hasBond) (maxL := 2) (ret := (some .boolean)) (own := RX0) (by decide +kernel) rfl rfl hq sf_EXk (Nat.le_of_ble_eq_true rfl) ?_
  intro p e s m args below meth c X
  have hT := X.2.2.2.1.2.1
  unfold R_X0_hasBond at h
  refine sf_loc (lv' := [(0, .ref (q 1)), (1, .int u0)]) [0, 1] rfl ?_
  refine sf_iload_n (i := 1) (j := 1) X dX0_hasBond_0 rfl rfl rfl ?_
  refine sf_if_lt (tgt := 16) X dX0_hasBond_1 rfl rfl (fun c1 => ?_) (fun c1 => ?_)
  · have h := sf_ift c1 h
    refine sf_iconst (v := 0) X dX0_hasBond_16 sf_ic_0 rfl ?_
    exact sf_retz X h rfl dX0_hasBond_17
  · have h := sf_iff c1 h
    refine sf_iload_n (i := 1) (j := 1) X dX0_hasBond_4 rfl rfl rfl ?_
    refine sf_aload_n (i := 0) (j := 0) X dX0_hasBond_5 rfl rfl rfl ?_
    refine sf_getI (C := RX0) (T := TX0) (N := 10) (ci := 0) (j := 8) X (fun w h => sf_memc (inX0 w h)) rfl rfl (by decide) (X.1.2.2.2.2 _ (sf_memc tw_96)) (fun _ h9 => h9) rfl dX0_hasBond_6 rfl ?_
    refine sf_icmp_ge (tgt := 16) X dX0_hasBond_9 rfl rfl (fun c2 => ?_) (fun c2 => ?_)
    · have h := sf_ift c2 h
      refine sf_iconst (v := 0) X dX0_hasBond_16 sf_ic_0 rfl ?_
      exact sf_retz X h rfl dX0_hasBond_17
    · have h := sf_iff c2 h
      refine sf_iconst (v := 1) X dX0_hasBond_12 sf_ic_1 rfl ?_
      refine sf_goto (tgt := 17) X dX0_hasBond_13 rfl ?_
      exact sf_retz X h rfl dX0_hasBond_17
def R_X0_isEnd (σ : sf_St) (u0 u1 : Int32) (r : Int32) (τ : sf_St) : Prop :=
  vp_in u0 9 ∧ (if (σ 5 (sf_ix u0)) = u1 then (r = (1 : Int32) ∧ τ = σ) else (vp_in u0 9 ∧ (if (σ 6 (sf_ix u0)) = u1 then (r = (1 : Int32) ∧ τ = σ) else (r = (0 : Int32) ∧ τ = σ))))
set_option maxHeartbeats 4000000 in
set_option maxRecDepth 100000 in
theorem c_X0_isEnd {l : Launch} {D : va_G} {q : Nat → Nat} {dA : Nat → ClassId} {tv ta tb : Nat} (hq : sf_inj q KX) {σ τ : sf_St} {u0 u1 : Int32} {r : Int32} (h : R_X0_isEnd σ u0 u1 r τ) : sf_Mi l yX0_isEnd wsX0_isEnd ({ frames := 0, cells := 0, slots := 0, locals := 0 }) D vwCl q dA KX (sf_EX q tv ta tb) [.ref (q 1), .int u0, .int u1] σ r τ := by
  refine sf_meti (cc := cX0_isEnd) (maxL := 3) (ret := (some .boolean)) (own := RX0) (by decide +kernel) rfl rfl hq sf_EXk (Nat.le_of_ble_eq_true rfl) ?_
  intro p e s m args below meth c X
  have hT := X.2.2.2.1.2.1
  unfold R_X0_isEnd at h
  refine sf_loc (lv' := [(0, .ref (q 1)), (1, .int u0), (2, .int u1)]) [0, 1, 2] rfl ?_
  refine sf_aload_n (i := 0) (j := 0) X dX0_isEnd_0 rfl rfl rfl ?_
  refine sf_getR (C := RX0) (T := TX0) (N := 10) (ci := 0) (j := 4) (k' := 5) X (fun w h => sf_memc (inX0 w h)) rfl rfl (by decide) (X.1.2.2.2.2 _ (sf_memc tw_87)) (fun _ h9 => h9) rfl dX0_isEnd_1 rfl ?_
  refine sf_iload_n (i := 1) (j := 1) X dX0_isEnd_4 rfl rfl rfl ?_
  obtain ⟨b1, h⟩ := h
  refine sf_iald X rfl b1 dX0_isEnd_5 rfl ?_
  refine sf_iload_n (i := 2) (j := 2) X dX0_isEnd_6 rfl rfl rfl ?_
  refine sf_icmp_eq (tgt := 20) X dX0_isEnd_7 rfl rfl (fun c2 => ?_) (fun c2 => ?_)
  · have h := sf_ift c2 h
    refine sf_iconst (v := 1) X dX0_isEnd_20 sf_ic_1 rfl ?_
    refine sf_goto (tgt := 25) X dX0_isEnd_21 rfl ?_
    exact sf_retz X h rfl dX0_isEnd_25
  · have h := sf_iff c2 h
    refine sf_aload_n (i := 0) (j := 0) X dX0_isEnd_10 rfl rfl rfl ?_
    refine sf_getR (C := RX0) (T := TX0) (N := 10) (ci := 0) (j := 5) (k' := 6) X (fun w h => sf_memc (inX0 w h)) rfl rfl (by decide) (X.1.2.2.2.2 _ (sf_memc tw_90)) (fun _ h9 => h9) rfl dX0_isEnd_11 rfl ?_
    refine sf_iload_n (i := 1) (j := 1) X dX0_isEnd_14 rfl rfl rfl ?_
    obtain ⟨b3, h⟩ := h
    refine sf_iald X rfl b3 dX0_isEnd_15 rfl ?_
    refine sf_iload_n (i := 2) (j := 2) X dX0_isEnd_16 rfl rfl rfl ?_
    refine sf_icmp_ne (tgt := 24) X dX0_isEnd_17 rfl rfl (fun c4 => ?_) (fun c4 => ?_)
    · have h := sf_iff c4 h
      refine sf_iconst (v := 0) X dX0_isEnd_24 sf_ic_0 rfl ?_
      exact sf_retz X h rfl dX0_isEnd_25
    · have h := sf_ift c4 h
      refine sf_iconst (v := 1) X dX0_isEnd_20 sf_ic_1 rfl ?_
      refine sf_goto (tgt := 25) X dX0_isEnd_21 rfl ?_
      exact sf_retz X h rfl dX0_isEnd_25
def R_X0_setMark (σ : sf_St) (u0 u1 u2 : Int32) (τ : sf_St) : Prop :=
  vp_in u0 9 ∧ (if (σ 5 (sf_ix u0)) = u2 then (vp_in u0 9 ∧ (∀ y12 : Int32, y12 = (σ 6 (sf_ix u0)) → (vp_in u0 9 ∧ (∀ τ14 : sf_St, τ14 = sf_up σ 5 (sf_ix u0) u2 → (vp_in u0 9 ∧ (∀ τ16 : sf_St, τ16 = sf_up τ14 6 (sf_ix u0) y12 → (vp_in u0 9 ∧ (∀ τ18 : sf_St, τ18 = sf_up τ16 8 (sf_ix u0) u1 → (τ = τ18))))))))) else (vp_in u0 9 ∧ (∀ y4 : Int32, y4 = (σ 5 (sf_ix u0)) → (vp_in u0 9 ∧ (∀ τ6 : sf_St, τ6 = sf_up σ 5 (sf_ix u0) u2 → (vp_in u0 9 ∧ (∀ τ8 : sf_St, τ8 = sf_up τ6 6 (sf_ix u0) y4 → (vp_in u0 9 ∧ (∀ τ10 : sf_St, τ10 = sf_up τ8 8 (sf_ix u0) u1 → (τ = τ10))))))))))
set_option maxHeartbeats 4000000 in
set_option maxRecDepth 100000 in
theorem c_X0_setMark {l : Launch} {D : va_G} {q : Nat → Nat} {dA : Nat → ClassId} {tv ta tb : Nat} (hq : sf_inj q KX) {σ τ : sf_St} {u0 u1 u2 : Int32} (h : R_X0_setMark σ u0 u1 u2 τ) : sf_Mv l yX0_setMark wsX0_setMark ({ frames := 0, cells := 0, slots := 0, locals := 0 }) D vwCl q dA KX (sf_EX q tv ta tb) [.ref (q 1), .int u0, .int u1, .int u2] σ τ := by
  refine sf_metv (cc := cX0_setMark) (maxL := 5) (ret := none) (own := RX0) (by decide +kernel) rfl rfl hq sf_EXk (Nat.le_of_ble_eq_true rfl) ?_
  intro p e s m args below meth c X
  have hT := X.2.2.2.1.2.1
  unfold R_X0_setMark at h
  refine sf_loc (lv' := [(0, .ref (q 1)), (1, .int u0), (2, .int u1), (3, .int u2)]) [0, 1, 2, 3] rfl ?_
  refine sf_aload_n (i := 0) (j := 0) X dX0_setMark_0 rfl rfl rfl ?_
  refine sf_getR (C := RX0) (T := TX0) (N := 10) (ci := 0) (j := 4) (k' := 5) X (fun w h => sf_memc (inX0 w h)) rfl rfl (by decide) (X.1.2.2.2.2 _ (sf_memc tw_87)) (fun _ h9 => h9) rfl dX0_setMark_1 rfl ?_
  refine sf_iload_n (i := 1) (j := 1) X dX0_setMark_4 rfl rfl rfl ?_
  obtain ⟨b1, h⟩ := h
  refine sf_iald X rfl b1 dX0_setMark_5 rfl ?_
  refine sf_iload_n (i := 3) (j := 3) X dX0_setMark_6 rfl rfl rfl ?_
  refine sf_icmp_ne (tgt := 19) X dX0_setMark_7 rfl rfl (fun c2 => ?_) (fun c2 => ?_)
  · have h := sf_iff c2 h
    refine sf_aload_n (i := 0) (j := 0) X dX0_setMark_19 rfl rfl rfl ?_
    refine sf_getR (C := RX0) (T := TX0) (N := 10) (ci := 0) (j := 4) (k' := 5) X (fun w h => sf_memc (inX0 w h)) rfl rfl (by decide) (X.1.2.2.2.2 _ (sf_memc tw_87)) (fun _ h9 => h9) rfl dX0_setMark_20 rfl ?_
    refine sf_iload_n (i := 1) (j := 1) X dX0_setMark_23 rfl rfl rfl ?_
    obtain ⟨b3, h⟩ := h
    refine sf_iald X rfl b3 dX0_setMark_24 rfl ?_
    refine sf_top (fun y4 hy4 => ?_)
    have h := h y4 hy4
    refine sf_istore (i := 4) (lv' := [(4, .int y4), (0, .ref (q 1)), (1, .int u0), (2, .int u1), (3, .int u2)]) X dX0_setMark_25 (by decide) rfl rfl ?_
    refine sf_aload_n (i := 0) (j := 1) X dX0_setMark_27 rfl rfl rfl ?_
    refine sf_getR (C := RX0) (T := TX0) (N := 10) (ci := 0) (j := 4) (k' := 5) X (fun w h => sf_memc (inX0 w h)) rfl rfl (by decide) (X.1.2.2.2.2 _ (sf_memc tw_87)) (fun _ h9 => h9) rfl dX0_setMark_28 rfl ?_
    refine sf_iload_n (i := 1) (j := 2) X dX0_setMark_31 rfl rfl rfl ?_
    refine sf_iload_n (i := 3) (j := 4) X dX0_setMark_32 rfl rfl rfl ?_
    obtain ⟨b5, h⟩ := h
    refine sf_iast X rfl b5 dX0_setMark_33 rfl (fun τ6 hτ6 => ?_)
    have h := h τ6 hτ6
    refine sf_aload_n (i := 0) (j := 1) X dX0_setMark_34 rfl rfl rfl ?_
    refine sf_getR (C := RX0) (T := TX0) (N := 10) (ci := 0) (j := 5) (k' := 6) X (fun w h => sf_memc (inX0 w h)) rfl rfl (by decide) (X.1.2.2.2.2 _ (sf_memc tw_90)) (fun _ h9 => h9) rfl dX0_setMark_35 rfl ?_
    refine sf_iload_n (i := 1) (j := 2) X dX0_setMark_38 rfl rfl rfl ?_
    refine sf_iload (i := 4) (j := 0) X dX0_setMark_39 rfl rfl ?_
    obtain ⟨b7, h⟩ := h
    refine sf_iast X rfl b7 dX0_setMark_41 rfl (fun τ8 hτ8 => ?_)
    have h := h τ8 hτ8
    refine sf_aload_n (i := 0) (j := 1) X dX0_setMark_42 rfl rfl rfl ?_
    refine sf_getR (C := RX0) (T := TX0) (N := 10) (ci := 0) (j := 7) (k' := 8) X (fun w h => sf_memc (inX0 w h)) rfl rfl (by decide) (X.1.2.2.2.2 _ (sf_memc tw_95)) (fun _ h9 => h9) rfl dX0_setMark_43 rfl ?_
    refine sf_iload_n (i := 1) (j := 2) X dX0_setMark_46 rfl rfl rfl ?_
    refine sf_iload_n (i := 2) (j := 3) X dX0_setMark_47 rfl rfl rfl ?_
    obtain ⟨b9, h⟩ := h
    refine sf_iast X rfl b9 dX0_setMark_48 rfl (fun τ10 hτ10 => ?_)
    have h := h τ10 hτ10
    exact sf_retv X h dX0_setMark_49
  · have h := sf_ift c2 h
    refine sf_aload_n (i := 0) (j := 0) X dX0_setMark_10 rfl rfl rfl ?_
    refine sf_getR (C := RX0) (T := TX0) (N := 10) (ci := 0) (j := 5) (k' := 6) X (fun w h => sf_memc (inX0 w h)) rfl rfl (by decide) (X.1.2.2.2.2 _ (sf_memc tw_90)) (fun _ h9 => h9) rfl dX0_setMark_11 rfl ?_
    refine sf_iload_n (i := 1) (j := 1) X dX0_setMark_14 rfl rfl rfl ?_
    obtain ⟨b11, h⟩ := h
    refine sf_iald X rfl b11 dX0_setMark_15 rfl ?_
    refine sf_goto (tgt := 25) X dX0_setMark_16 rfl ?_
    refine sf_top (fun y12 hy12 => ?_)
    have h := h y12 hy12
    refine sf_istore (i := 4) (lv' := [(4, .int y12), (0, .ref (q 1)), (1, .int u0), (2, .int u1), (3, .int u2)]) X dX0_setMark_25 (by decide) rfl rfl ?_
    refine sf_aload_n (i := 0) (j := 1) X dX0_setMark_27 rfl rfl rfl ?_
    refine sf_getR (C := RX0) (T := TX0) (N := 10) (ci := 0) (j := 4) (k' := 5) X (fun w h => sf_memc (inX0 w h)) rfl rfl (by decide) (X.1.2.2.2.2 _ (sf_memc tw_87)) (fun _ h9 => h9) rfl dX0_setMark_28 rfl ?_
    refine sf_iload_n (i := 1) (j := 2) X dX0_setMark_31 rfl rfl rfl ?_
    refine sf_iload_n (i := 3) (j := 4) X dX0_setMark_32 rfl rfl rfl ?_
    obtain ⟨b13, h⟩ := h
    refine sf_iast X rfl b13 dX0_setMark_33 rfl (fun τ14 hτ14 => ?_)
    have h := h τ14 hτ14
    refine sf_aload_n (i := 0) (j := 1) X dX0_setMark_34 rfl rfl rfl ?_
    refine sf_getR (C := RX0) (T := TX0) (N := 10) (ci := 0) (j := 5) (k' := 6) X (fun w h => sf_memc (inX0 w h)) rfl rfl (by decide) (X.1.2.2.2.2 _ (sf_memc tw_90)) (fun _ h9 => h9) rfl dX0_setMark_35 rfl ?_
    refine sf_iload_n (i := 1) (j := 2) X dX0_setMark_38 rfl rfl rfl ?_
    refine sf_iload (i := 4) (j := 0) X dX0_setMark_39 rfl rfl ?_
    obtain ⟨b15, h⟩ := h
    refine sf_iast X rfl b15 dX0_setMark_41 rfl (fun τ16 hτ16 => ?_)
    have h := h τ16 hτ16
    refine sf_aload_n (i := 0) (j := 1) X dX0_setMark_42 rfl rfl rfl ?_
    refine sf_getR (C := RX0) (T := TX0) (N := 10) (ci := 0) (j := 7) (k' := 8) X (fun w h => sf_memc (inX0 w h)) rfl rfl (by decide) (X.1.2.2.2.2 _ (sf_memc tw_95)) (fun _ h9 => h9) rfl dX0_setMark_43 rfl ?_
    refine sf_iload_n (i := 1) (j := 2) X dX0_setMark_46 rfl rfl rfl ?_
    refine sf_iload_n (i := 2) (j := 3) X dX0_setMark_47 rfl rfl rfl ?_
    obtain ⟨b17, h⟩ := h
    refine sf_iast X rfl b17 dX0_setMark_48 rfl (fun τ18 hτ18 => ?_)
    have h := h τ18 hτ18
    exact sf_retv X h dX0_setMark_49
def R_X6_mark (σ : sf_St) (u0 u1 u2 : Int32) (r : Int32) (τ : sf_St) : Prop :=
  ∃ (r3 : Int32) (τ2 : sf_St), R_X0_hasBond σ u0 r3 τ2 ∧ (if r3 = (0 : Int32) then (r = (0 : Int32) ∧ τ = τ2) else (∃ (r7 : Int32) (τ6 : sf_St), R_X6_isMark τ2 u1 r7 τ6 ∧ (if r7 = (0 : Int32) then (r = (0 : Int32) ∧ τ = τ6) else (∃ (r11 : Int32) (τ10 : sf_St), R_X0_isEnd τ6 u0 u2 r11 τ10 ∧ (if r11 = (0 : Int32) then (r = (0 : Int32) ∧ τ = τ10) else (∀ τ13 : sf_St, τ13 = sf_up τ10 0 10 (0 : Int32) → (∃ τ15 : sf_St, R_X0_setMark τ13 u0 u1 u2 τ15 ∧ (r = (1 : Int32) ∧ τ = τ15))))))))
set_option maxHeartbeats 4000000 in
set_option maxRecDepth 100000 in
theorem c_X6_mark {l : Launch} {D : va_G} {q : Nat → Nat} {dA : Nat → ClassId} {tv ta tb : Nat} (hq : sf_inj q KX) {σ τ : sf_St} {u0 u1 u2 : Int32} {r : Int32} (h : R_X6_mark σ u0 u1 u2 r τ) : sf_Mi l yX6_mark wsX6_mark ({ frames := 1, cells := 0, slots := 0, locals := 24 }) D vwCl q dA KX (sf_EX q tv ta tb) [.ref (q 0), .int u0, .int u1, .int u2] σ r τ := by
  refine sf_meti (cc := cX6_mark) (maxL := 4) (ret := (some .boolean)) (own := RX6) (by decide +kernel) rfl rfl hq sf_EXk (Nat.le_of_ble_eq_true rfl) ?_
  intro p e s m args below meth c X
  have hT := X.2.2.2.1.2.1
  unfold R_X6_mark at h
  refine sf_loc (lv' := [(0, .ref (q 0)), (1, .int u0), (2, .int u1), (3, .int u2)]) [0, 1, 2, 3] rfl ?_
  refine sf_aload_n (i := 0) (j := 0) X dX6_mark_0 rfl rfl rfl ?_
  refine sf_getR (C := RX6) (T := TX6) (N := 11) (ci := 6) (j := 0) (k' := 1) X (fun w h => sf_memc (inX6 w h)) rfl rfl (by decide) (X.1.2.2.2.2 _ (sf_memc tw_224)) (fun _ h9 => h9) rfl dX6_mark_1 rfl ?_
  refine sf_iload_n (i := 1) (j := 1) X dX6_mark_4 rfl rfl rfl ?_
  obtain ⟨r3, τ2, hR1, h⟩ := h
  refine sf_callVi (As := [.int u0]) (rest := []) (cv := (RX0, TX0, 10)) X rfl rfl (c_X0_hasBond hq hR1) (cwV 1 X.1.2.2.2.2 (sf_gV tw_307 tw_308 tw_309 tw_42 tw_310) rfl rfl rfl ⟨rfl, hd_X0_hasBond⟩ ⟨Nat.le_of_ble_eq_true rfl, Nat.le_of_ble_eq_true rfl⟩) rfl rfl (Nat.le_of_ble_eq_true rfl) dX6_mark_5 rfl ?_
  refine sf_if_eq (tgt := 30) X dX6_mark_8 rfl rfl (fun c4 => ?_) (fun c4 => ?_)
  · have h := sf_ift c4 h
    refine sf_iconst (v := 0) X dX6_mark_30 sf_ic_0 rfl ?_
    exact sf_retz X h rfl dX6_mark_31
  · have h := sf_iff c4 h
    refine sf_iload_n (i := 2) (j := 2) X dX6_mark_11 rfl rfl rfl ?_
    obtain ⟨r7, τ6, hR5, h⟩ := h
    refine sf_callSi (As := [.int u1]) (rest := []) X (c_X6_isMark hq hR5) (va_cwS 1 X.1.2.2.2.2 (sf_gS tw_279 tw_280 tw_41 tw_281) rfl rfl rfl hd_X6_isMark ⟨Nat.le_of_ble_eq_true rfl, Nat.le_of_ble_eq_true rfl⟩) rfl rfl (Nat.le_of_ble_eq_true rfl) dX6_mark_12 rfl ?_
    refine sf_if_eq (tgt := 30) X dX6_mark_15 rfl rfl (fun c8 => ?_) (fun c8 => ?_)
    · have h := sf_ift c8 h
      refine sf_iconst (v := 0) X dX6_mark_30 sf_ic_0 rfl ?_
      exact sf_retz X h rfl dX6_mark_31
    · have h := sf_iff c8 h
      refine sf_aload_n (i := 0) (j := 0) X dX6_mark_18 rfl rfl rfl ?_
      refine sf_getR (C := RX6) (T := TX6) (N := 11) (ci := 6) (j := 0) (k' := 1) X (fun w h => sf_memc (inX6 w h)) rfl rfl (by decide) (X.1.2.2.2.2 _ (sf_memc tw_224)) (fun _ h9 => h9) rfl dX6_mark_19 rfl ?_
      refine sf_iload_n (i := 1) (j := 1) X dX6_mark_22 rfl rfl rfl ?_
      refine sf_iload_n (i := 3) (j := 3) X dX6_mark_23 rfl rfl rfl ?_
      obtain ⟨r11, τ10, hR9, h⟩ := h
      refine sf_callVi (As := [.int u0, .int u2]) (rest := []) (cv := (RX0, TX0, 10)) X rfl rfl (c_X0_isEnd hq hR9) (cwV 2 X.1.2.2.2.2 (sf_gV tw_311 tw_312 tw_313 tw_42 tw_314) rfl rfl rfl ⟨rfl, hd_X0_isEnd⟩ ⟨Nat.le_of_ble_eq_true rfl, Nat.le_of_ble_eq_true rfl⟩) rfl rfl (Nat.le_of_ble_eq_true rfl) dX6_mark_24 rfl ?_
      refine sf_if_ne (tgt := 32) X dX6_mark_27 rfl rfl (fun c12 => ?_) (fun c12 => ?_)
      · have h := sf_iff c12 h
        refine sf_aload_n (i := 0) (j := 0) X dX6_mark_32 rfl rfl rfl ?_
        refine sf_iconst (v := 0) X dX6_mark_33 sf_ic_0 rfl ?_
        refine sf_putI (C := RX6) (T := TX6) (N := 11) (ci := 6) (j := 10) (ty := .boolean) X (fun w h => sf_memc (inX6 w h)) rfl rfl (by decide) (X.1.2.2.2.2 _ (sf_memc tw_234)) (fun _ h9 => h9) tyX6 tyX6_ok nmX6 rfl (by decide +kernel) rfl rfl rfl dX6_mark_34 rfl (fun τ13 hτ13 => ?_)
        have h := h τ13 hτ13
        refine sf_aload_n (i := 0) (j := 0) X dX6_mark_37 rfl rfl rfl ?_
        refine sf_getR (C := RX6) (T := TX6) (N := 11) (ci := 6) (j := 0) (k' := 1) X (fun w h => sf_memc (inX6 w h)) rfl rfl (by decide) (X.1.2.2.2.2 _ (sf_memc tw_224)) (fun _ h9 => h9) rfl dX6_mark_38 rfl ?_
        refine sf_iload_n (i := 1) (j := 1) X dX6_mark_41 rfl rfl rfl ?_
        refine sf_iload_n (i := 2) (j := 2) X dX6_mark_42 rfl rfl rfl ?_
        refine sf_iload_n (i := 3) (j := 3) X dX6_mark_43 rfl rfl rfl ?_
        obtain ⟨τ15, hR14, h⟩ := h
        refine sf_callVv (As := [.int u0, .int u1, .int u2]) (rest := []) (cv := (RX0, TX0, 10)) X rfl rfl (c_X0_setMark hq hR14) (cwV 3 X.1.2.2.2.2 (sf_gV tw_315 tw_316 tw_317 tw_42 tw_318) rfl rfl rfl ⟨rfl, hd_X0_setMark⟩ ⟨Nat.le_of_ble_eq_true rfl, Nat.le_of_ble_eq_true rfl⟩) rfl rfl (Nat.le_of_ble_eq_true rfl) dX6_mark_44 rfl ?_
        refine sf_iconst (v := 1) X dX6_mark_47 sf_ic_1 rfl ?_
        exact sf_retz X h rfl dX6_mark_48
      · have h := sf_ift c12 h
        refine sf_iconst (v := 0) X dX6_mark_30 sf_ic_0 rfl ?_
        exact sf_retz X h rfl dX6_mark_31
def tr_R_X0_removeAll_0 (Pr : Nat → sf_St → Int32 → Prop) (τ : sf_St) (σ : sf_St) (u0 : Int32) : Prop :=
  Pr 1 σ (0 : Int32)
def tr_R_X0_removeAll_1 (Pr : Nat → sf_St → Int32 → Prop) (τ : sf_St) (σ : sf_St) (u0 : Int32) : Prop :=
  if (σ 1 3) ≤ u0 then (∀ τ2 : sf_St, τ2 = sf_up σ 1 3 (0 : Int32) → (∀ τ3 : sf_St, τ3 = sf_up τ2 1 8 (0 : Int32) → (τ = τ3))) else (vp_in u0 7 ∧ (∃ τ6 : sf_St, R_fill (10 + sf_ix u0) σ (0 : Int32) τ6 ∧ (∀ y7 : Int32, y7 = u0 + (1 : Int32) → (Pr 1 τ6 y7))))
def fn_R_X0_removeAll (Pr : Nat → sf_St → Int32 → Prop) (τ : sf_St) (t : Nat) (σ : sf_St) (u0 : Int32) : Prop := match t with
  | 0 => tr_R_X0_removeAll_0 Pr τ σ u0
  | 1 => tr_R_X0_removeAll_1 Pr τ σ u0
  | _ => False
def Rn_R_X0_removeAll (t : Nat) (σ : sf_St) (u0 : Int32) (τ : sf_St) : Prop := ∀ Pr : Nat → sf_St → Int32 → Prop, (∀ (t : Nat) (σ : sf_St) (u0 : Int32), fn_R_X0_removeAll Pr τ t σ u0 → Pr t σ u0) → Pr t σ u0
def R_X0_removeAll (σ : sf_St) (τ : sf_St) : Prop := Rn_R_X0_removeAll 0 σ  0 τ
theorem fe_R_X0_removeAll_0 {Pr : Nat → sf_St → Int32 → Prop} {τ σ : sf_St} {u0 : Int32} (h : fn_R_X0_removeAll Pr τ 0 σ u0) : tr_R_X0_removeAll_0 Pr τ σ u0 := h
theorem mo_R_X0_removeAll_0 {Pr Pr' : Nat → sf_St → Int32 → Prop} {τ σ : sf_St} {u0 : Int32} (hP : ∀ (t : Nat) (σ : sf_St) (u0 : Int32), Pr t σ u0 → Pr' t σ u0) (h : tr_R_X0_removeAll_0 Pr τ σ u0) : tr_R_X0_removeAll_0 Pr' τ σ u0 := by
  unfold tr_R_X0_removeAll_0 at h ⊢
  exact hP _ _ _ h
theorem ru_R_X0_removeAll_0 {τ σ : sf_St} {u0 : Int32} (h : tr_R_X0_removeAll_0 (fun t σ u0 => Rn_R_X0_removeAll t σ u0 τ) τ σ u0) : Rn_R_X0_removeAll 0 σ u0 τ := fun Pr hP => hP 0 σ u0 (mo_R_X0_removeAll_0 (fun _ _ _ h => h Pr hP) h)
theorem fe_R_X0_removeAll_1 {Pr : Nat → sf_St → Int32 → Prop} {τ σ : sf_St} {u0 : Int32} (h : fn_R_X0_removeAll Pr τ 1 σ u0) : tr_R_X0_removeAll_1 Pr τ σ u0 := h
theorem mo_R_X0_removeAll_1 {Pr Pr' : Nat → sf_St → Int32 → Prop} {τ σ : sf_St} {u0 : Int32} (hP : ∀ (t : Nat) (σ : sf_St) (u0 : Int32), Pr t σ u0 → Pr' t σ u0) (h : tr_R_X0_removeAll_1 Pr τ σ u0) : tr_R_X0_removeAll_1 Pr' τ σ u0 := by
  unfold tr_R_X0_removeAll_1 at h ⊢
  refine sf_mif (fun h => ?_) (fun h => ?_) h
  · intro τ2 hτ2
    have h := h τ2 hτ2
    intro τ3 hτ3
    have h := h τ3 hτ3
    exact h
  · refine And.imp id (fun h => ?_) h
    refine Exists.imp (fun _ h => And.imp id (fun h => ?_) h) h
    intro y7 hy7
    have h := h y7 hy7
    exact hP _ _ _ h
theorem ru_R_X0_removeAll_1 {τ σ : sf_St} {u0 : Int32} (h : tr_R_X0_removeAll_1 (fun t σ u0 => Rn_R_X0_removeAll t σ u0 τ) τ σ u0) : Rn_R_X0_removeAll 1 σ u0 τ := fun Pr hP => hP 1 σ u0 (mo_R_X0_removeAll_1 (fun _ _ _ h => h Pr hP) h)
set_option maxHeartbeats 4000000 in
set_option maxRecDepth 100000 in
theorem c_X0_removeAll {l : Launch} {D : va_G} {q : Nat → Nat} {dA : Nat → ClassId} {tv ta tb : Nat} (hq : sf_inj q KX) {σ τ : sf_St} (h : R_X0_removeAll σ  τ) : sf_Mv l yX0_removeAll wsX0_removeAll ({ frames := 1, cells := 0, slots := 0, locals := 23 }) D vwCl q dA KX (sf_EX q tv ta tb) [.ref (q 1)] σ τ := by
  refine sf_metv (cc := cX0_removeAll) (maxL := 2) (ret := none) (own := RX0) (by decide +kernel) rfl rfl hq sf_EXk (Nat.le_of_ble_eq_true rfl) ?_
  intro p e s m args below meth c X
  have hT := X.2.2.2.1.2.1
  refine sf_loc (lv' := [(0, .ref (q 1))]) [0] rfl ?_
  refine h (fun t σ u0 => match t with
    | 0 => sf_G p l e (headSpec wsX0_removeAll ({ frames := 1, cells := 0, slots := 0, locals := 23 })).room s m args below meth c (sf_Qv D vwCl q dA KX (sf_EX q tv ta tb) below args s τ) 2 D vwCl q dA KX σ 0 [(0, .ref (q 1))] []
    | 1 => sf_G p l e (headSpec wsX0_removeAll ({ frames := 1, cells := 0, slots := 0, locals := 23 })).room s m args below meth c (sf_Qv D vwCl q dA KX (sf_EX q tv ta tb) below args s τ) 2 D vwCl q dA KX σ 2 [(0, .ref (q 1)), (1, .int u0)] []
    | _ => True) ?_
  intro t σ u0 h
  match t, h with
  | 0, h =>
      replace h := fe_R_X0_removeAll_0 h
      unfold tr_R_X0_removeAll_0 at h
      show sf_G p l e (headSpec wsX0_removeAll ({ frames := 1, cells := 0, slots := 0, locals := 23 })).room s m args below meth c (sf_Qv D vwCl q dA KX (sf_EX q tv ta tb) below args s τ) 2 D vwCl q dA KX σ 0 [(0, .ref (q 1))] []
      refine sf_iconst (v := 0) X dX0_removeAll_0 sf_ic_0 rfl ?_
      refine sf_istore_n (i := 1) (lv' := [(1, .int (0 : Int32)), (0, .ref (q 1))]) X dX0_removeAll_1 rfl (by decide) rfl rfl ?_
      refine sf_loc (lv' := [(0, .ref (q 1)), (1, .int (0 : Int32))]) [1, 0] rfl ?_
      exact h
  | 1, h =>
      replace h := fe_R_X0_removeAll_1 h
      unfold tr_R_X0_removeAll_1 at h
      show sf_G p l e (headSpec wsX0_removeAll ({ frames := 1, cells := 0, slots := 0, locals := 23 })).room s m args below meth c (sf_Qv D vwCl q dA KX (sf_EX q tv ta tb) below args s τ) 2 D vwCl q dA KX σ 2 [(0, .ref (q 1)), (1, .int u0)] []
      refine sf_iload_n (i := 1) (j := 1) X dX0_removeAll_2 rfl rfl rfl ?_
      refine sf_aload_n (i := 0) (j := 0) X dX0_removeAll_3 rfl rfl rfl ?_
      refine sf_getI (C := RX0) (T := TX0) (N := 10) (ci := 0) (j := 3) X (fun w h => sf_memc (inX0 w h)) rfl rfl (by decide) (X.1.2.2.2.2 _ (sf_memc tw_81)) (fun _ h9 => h9) rfl dX0_removeAll_4 rfl ?_
      refine sf_icmp_ge (tgt := 26) X dX0_removeAll_7 rfl rfl (fun c1 => ?_) (fun c1 => ?_)
      · have h := sf_ift c1 h
        refine sf_aload_n (i := 0) (j := 0) X dX0_removeAll_26 rfl rfl rfl ?_
        refine sf_iconst (v := 0) X dX0_removeAll_27 sf_ic_0 rfl ?_
        refine sf_putI (C := RX0) (T := TX0) (N := 10) (ci := 0) (j := 3) (ty := .int) X (fun w h => sf_memc (inX0 w h)) rfl rfl (by decide) (X.1.2.2.2.2 _ (sf_memc tw_81)) (fun _ h9 => h9) tyX0 tyX0_ok nmX0 rfl (by decide +kernel) rfl rfl rfl dX0_removeAll_28 rfl (fun τ2 hτ2 => ?_)
        have h := h τ2 hτ2
        refine sf_aload_n (i := 0) (j := 0) X dX0_removeAll_31 rfl rfl rfl ?_
        refine sf_iconst (v := 0) X dX0_removeAll_32 sf_ic_0 rfl ?_
        refine sf_putI (C := RX0) (T := TX0) (N := 10) (ci := 0) (j := 8) (ty := .int) X (fun w h => sf_memc (inX0 w h)) rfl rfl (by decide) (X.1.2.2.2.2 _ (sf_memc tw_96)) (fun _ h9 => h9) tyX0 tyX0_ok nmX0 rfl (by decide +kernel) rfl rfl rfl dX0_removeAll_33 rfl (fun τ3 hτ3 => ?_)
        have h := h τ3 hτ3
        exact sf_retv X h dX0_removeAll_36
      · have h := sf_iff c1 h
        refine sf_aload_n (i := 0) (j := 0) X dX0_removeAll_10 rfl rfl rfl ?_
        refine sf_getR (C := RX0) (T := TX0) (N := 10) (ci := 0) (j := 9) (k' := 9) X (fun w h => sf_memc (inX0 w h)) rfl rfl (by decide) (X.1.2.2.2.2 _ (sf_memc tw_99)) (fun _ h9 => h9) rfl dX0_removeAll_11 rfl ?_
        refine sf_iload_n (i := 1) (j := 1) X dX0_removeAll_14 rfl rfl rfl ?_
        obtain ⟨b4, h⟩ := h
        refine sf_aald (k' := (10 + sf_ix u0)) X rfl b4 (sf_lkR b4) dX0_removeAll_15 rfl ?_
        refine sf_iconst (v := 0) X dX0_removeAll_16 sf_ic_0 rfl ?_
        obtain ⟨τ6, hR5, h⟩ := h
        refine sf_callSv (As := [.ref (q (10 + sf_ix u0)), .int (0 : Int32)]) (rest := []) X (c_fill hq (sf_lkK b4) hR5) (va_cwS 2 X.1.2.2.2.2 (sf_gS tw_327 tw_328 tw_49 tw_329) rfl rfl rfl hd_J7_fill ⟨Nat.le_of_ble_eq_true rfl, Nat.le_of_ble_eq_true rfl⟩) rfl rfl (Nat.le_of_ble_eq_true rfl) dX0_removeAll_17 rfl ?_
        refine sf_iinc (i := 1) (j := 1) (d := 1) (lv' := fun y7 => [(1, .int y7), (0, .ref (q 1))]) X dX0_removeAll_20 rfl sf_ic_1 (by decide) (fun _ => rfl) rfl (fun y7 hy7 => ?_)
        have h := h y7 hy7
        refine sf_goto (tgt := 2) X dX0_removeAll_23 rfl ?_
        refine sf_loc (lv' := [(0, .ref (q 1)), (1, .int y7)]) [1, 0] rfl ?_
        exact h
  | (_ + 2), _ => exact trivial
def R_X6_clear (σ : sf_St) (r : Int32) (τ : sf_St) : Prop :=
  ∀ τ1 : sf_St, τ1 = sf_up σ 0 10 (0 : Int32) → (∀ y2 : Int32, y2 = (τ1 1 3) → (∃ τ4 : sf_St, R_X0_removeAll τ1 τ4 ∧ (r = y2 ∧ τ = τ4)))
set_option maxHeartbeats 4000000 in
set_option maxRecDepth 100000 in
theorem c_X6_clear {l : Launch} {D : va_G} {q : Nat → Nat} {dA : Nat → ClassId} {tv ta tb : Nat} (hq : sf_inj q KX) {σ τ : sf_St} {r : Int32} (h : R_X6_clear σ  r τ) : sf_Mi l yX6_clear wsX6_clear ({ frames := 2, cells := 0, slots := 0, locals := 44 }) D vwCl q dA KX (sf_EX q tv ta tb) [.ref (q 0)] σ r τ := by
  refine sf_meti (cc := cX6_clear) (maxL := 2) (ret := (some .int)) (own := RX6) (by decide +kernel) rfl rfl hq sf_EXk (Nat.le_of_ble_eq_true rfl) ?_
  intro p e s m args below meth c X
  have hT := X.2.2.2.1.2.1
  unfold R_X6_clear at h
  refine sf_loc (lv' := [(0, .ref (q 0))]) [0] rfl ?_
  refine sf_aload_n (i := 0) (j := 0) X dX6_clear_0 rfl rfl rfl ?_
  refine sf_iconst (v := 0) X dX6_clear_1 sf_ic_0 rfl ?_
  refine sf_putI (C := RX6) (T := TX6) (N := 11) (ci := 6) (j := 10) (ty := .boolean) X (fun w h => sf_memc (inX6 w h)) rfl rfl (by decide) (X.1.2.2.2.2 _ (sf_memc tw_234)) (fun _ h9 => h9) tyX6 tyX6_ok nmX6 rfl (by decide +kernel) rfl rfl rfl dX6_clear_2 rfl (fun τ1 hτ1 => ?_)
  have h := h τ1 hτ1
  refine sf_aload_n (i := 0) (j := 0) X dX6_clear_5 rfl rfl rfl ?_
  refine sf_getR (C := RX6) (T := TX6) (N := 11) (ci := 6) (j := 0) (k' := 1) X (fun w h => sf_memc (inX6 w h)) rfl rfl (by decide) (X.1.2.2.2.2 _ (sf_memc tw_224)) (fun _ h9 => h9) rfl dX6_clear_6 rfl ?_
  refine sf_getI (C := RX0) (T := TX0) (N := 10) (ci := 0) (j := 3) X (fun w h => sf_memc (inX0 w h)) rfl rfl (by decide) (X.1.2.2.2.2 _ (sf_memc tw_85)) (fun _ h9 => h9) rfl dX6_clear_9 rfl ?_
  refine sf_top (fun y2 hy2 => ?_)
  have h := h y2 hy2
  refine sf_istore_n (i := 1) (lv' := [(1, .int y2), (0, .ref (q 0))]) X dX6_clear_12 rfl (by decide) rfl rfl ?_
  refine sf_aload_n (i := 0) (j := 1) X dX6_clear_13 rfl rfl rfl ?_
  refine sf_getR (C := RX6) (T := TX6) (N := 11) (ci := 6) (j := 0) (k' := 1) X (fun w h => sf_memc (inX6 w h)) rfl rfl (by decide) (X.1.2.2.2.2 _ (sf_memc tw_224)) (fun _ h9 => h9) rfl dX6_clear_14 rfl ?_
  obtain ⟨τ4, hR3, h⟩ := h
  refine sf_callVv (As := []) (rest := []) (cv := (RX0, TX0, 10)) X rfl rfl (c_X0_removeAll hq hR3) (cwV 0 X.1.2.2.2.2 (sf_gV tw_323 tw_324 tw_325 tw_42 tw_326) rfl rfl rfl ⟨rfl, hd_X0_removeAll⟩ ⟨Nat.le_of_ble_eq_true rfl, Nat.le_of_ble_eq_true rfl⟩) rfl rfl (Nat.le_of_ble_eq_true rfl) dX6_clear_17 rfl ?_
  refine sf_iload_n (i := 1) (j := 0) X dX6_clear_20 rfl rfl rfl ?_
  exact sf_reti X h dX6_clear_21
def tr_R_X0_swapMarks_0 (Pr : Nat → sf_St → Int32 → Int32 → Prop) (r : Int32) (τ : sf_St) (σ : sf_St) (u0 u1 : Int32) : Prop :=
  Pr 1 σ (0 : Int32) (0 : Int32)
def tr_R_X0_swapMarks_1 (Pr : Nat → sf_St → Int32 → Int32 → Prop) (r : Int32) (τ : sf_St) (σ : sf_St) (u0 u1 : Int32) : Prop :=
  if (σ 1 8) ≤ u1 then (r = u0 ∧ τ = σ) else (vp_in u1 9 ∧ (if (σ 8 (sf_ix u1)) = (0 : Int32) then (∀ y4 : Int32, y4 = u1 + (1 : Int32) → (Pr 1 σ u0 y4)) else (vp_in u1 9 ∧ (if (σ 8 (sf_ix u1)) = (1 : Int32) then (vp_in u1 9 ∧ (∀ τ12 : sf_St, τ12 = sf_up σ 8 (sf_ix u1) (2 : Int32) → (∀ y13 : Int32, y13 = u0 + (1 : Int32) → (∀ y14 : Int32, y14 = u1 + (1 : Int32) → (Pr 1 τ12 y13 y14))))) else (vp_in u1 9 ∧ (∀ τ8 : sf_St, τ8 = sf_up σ 8 (sf_ix u1) (1 : Int32) → (∀ y9 : Int32, y9 = u0 + (1 : Int32) → (∀ y10 : Int32, y10 = u1 + (1 : Int32) → (Pr 1 τ8 y9 y10)))))))))
def fn_R_X0_swapMarks (Pr : Nat → sf_St → Int32 → Int32 → Prop) (r : Int32) (τ : sf_St) (t : Nat) (σ : sf_St) (u0 u1 : Int32) : Prop := match t with
  | 0 => tr_R_X0_swapMarks_0 Pr r τ σ u0 u1
  | 1 => tr_R_X0_swapMarks_1 Pr r τ σ u0 u1
  | _ => False
def Rn_R_X0_swapMarks (t : Nat) (σ : sf_St) (u0 u1 : Int32) (r : Int32) (τ : sf_St) : Prop := ∀ Pr : Nat → sf_St → Int32 → Int32 → Prop, (∀ (t : Nat) (σ : sf_St) (u0 u1 : Int32), fn_R_X0_swapMarks Pr r τ t σ u0 u1 → Pr t σ u0 u1) → Pr t σ u0 u1
def R_X0_swapMarks (σ : sf_St) (r : Int32) (τ : sf_St) : Prop := Rn_R_X0_swapMarks 0 σ  0 0 r τ
theorem fe_R_X0_swapMarks_0 {Pr : Nat → sf_St → Int32 → Int32 → Prop} {r : Int32} {τ σ : sf_St} {u0 u1 : Int32} (h : fn_R_X0_swapMarks Pr r τ 0 σ u0 u1) : tr_R_X0_swapMarks_0 Pr r τ σ u0 u1 := h
theorem mo_R_X0_swapMarks_0 {Pr Pr' : Nat → sf_St → Int32 → Int32 → Prop} {r : Int32} {τ σ : sf_St} {u0 u1 : Int32} (hP : ∀ (t : Nat) (σ : sf_St) (u0 u1 : Int32), Pr t σ u0 u1 → Pr' t σ u0 u1) (h : tr_R_X0_swapMarks_0 Pr r τ σ u0 u1) : tr_R_X0_swapMarks_0 Pr' r τ σ u0 u1 := by
  unfold tr_R_X0_swapMarks_0 at h ⊢
  exact hP _ _ _ _ h
theorem ru_R_X0_swapMarks_0 {r : Int32} {τ σ : sf_St} {u0 u1 : Int32} (h : tr_R_X0_swapMarks_0 (fun t σ u0 u1 => Rn_R_X0_swapMarks t σ u0 u1 r τ) r τ σ u0 u1) : Rn_R_X0_swapMarks 0 σ u0 u1 r τ := fun Pr hP => hP 0 σ u0 u1 (mo_R_X0_swapMarks_0 (fun _ _ _ _ h => h Pr hP) h)
theorem fe_R_X0_swapMarks_1 {Pr : Nat → sf_St → Int32 → Int32 → Prop} {r : Int32} {τ σ : sf_St} {u0 u1 : Int32} (h : fn_R_X0_swapMarks Pr r τ 1 σ u0 u1) : tr_R_X0_swapMarks_1 Pr r τ σ u0 u1 := h
theorem mo_R_X0_swapMarks_1 {Pr Pr' : Nat → sf_St → Int32 → Int32 → Prop} {r : Int32} {τ σ : sf_St} {u0 u1 : Int32} (hP : ∀ (t : Nat) (σ : sf_St) (u0 u1 : Int32), Pr t σ u0 u1 → Pr' t σ u0 u1) (h : tr_R_X0_swapMarks_1 Pr r τ σ u0 u1) : tr_R_X0_swapMarks_1 Pr' r τ σ u0 u1 := by
  unfold tr_R_X0_swapMarks_1 at h ⊢
  refine sf_mif (fun h => ?_) (fun h => ?_) h
  · exact h
  · refine And.imp id (fun h => ?_) h
    refine sf_mif (fun h => ?_) (fun h => ?_) h
    · intro y4 hy4
      have h := h y4 hy4
      exact hP _ _ _ _ h
    · refine And.imp id (fun h => ?_) h
      refine sf_mif (fun h => ?_) (fun h => ?_) h
      · refine And.imp id (fun h => ?_) h
        intro τ12 hτ12
        have h := h τ12 hτ12
        intro y13 hy13
        have h := h y13 hy13
        intro y14 hy14
        have h := h y14 hy14
        exact hP _ _ _ _ h
      · refine And.imp id (fun h => ?_) h
        intro τ8 hτ8
        have h := h τ8 hτ8
        intro y9 hy9
        have h := h y9 hy9
        intro y10 hy10
        have h := h y10 hy10
        exact hP _ _ _ _ h
theorem ru_R_X0_swapMarks_1 {r : Int32} {τ σ : sf_St} {u0 u1 : Int32} (h : tr_R_X0_swapMarks_1 (fun t σ u0 u1 => Rn_R_X0_swapMarks t σ u0 u1 r τ) r τ σ u0 u1) : Rn_R_X0_swapMarks 1 σ u0 u1 r τ := fun Pr hP => hP 1 σ u0 u1 (mo_R_X0_swapMarks_1 (fun _ _ _ _ h => h Pr hP) h)
set_option maxHeartbeats 4000000 in
set_option maxRecDepth 100000 in
theorem c_X0_swapMarks {l : Launch} {D : va_G} {q : Nat → Nat} {dA : Nat → ClassId} {tv ta tb : Nat} (hq : sf_inj q KX) {σ τ : sf_St} {r : Int32} (h : R_X0_swapMarks σ  r τ) : sf_Mi l yX0_swapMarks wsX0_swapMarks ({ frames := 0, cells := 0, slots := 0, locals := 0 }) D vwCl q dA KX (sf_EX q tv ta tb) [.ref (q 1)] σ r τ := by
  refine sf_meti (cc := cX0_swapMarks) (maxL := 3) (ret := (some .int)) (own := RX0) (by decide +kernel) rfl rfl hq sf_EXk (Nat.le_of_ble_eq_true rfl) ?_
  intro p e s m args below meth c X
  have hT := X.2.2.2.1.2.1
  refine sf_loc (lv' := [(0, .ref (q 1))]) [0] rfl ?_
  refine h (fun t σ u0 u1 => match t with
    | 0 => sf_G p l e (headSpec wsX0_swapMarks ({ frames := 0, cells := 0, slots := 0, locals := 0 })).room s m args below meth c (sf_Qi D vwCl q dA KX (sf_EX q tv ta tb) below args s r τ) 3 D vwCl q dA KX σ 0 [(0, .ref (q 1))] []
    | 1 => sf_G p l e (headSpec wsX0_swapMarks ({ frames := 0, cells := 0, slots := 0, locals := 0 })).room s m args below meth c (sf_Qi D vwCl q dA KX (sf_EX q tv ta tb) below args s r τ) 3 D vwCl q dA KX σ 4 [(0, .ref (q 1)), (1, .int u0), (2, .int u1)] []
    | _ => True) ?_
  intro t σ u0 u1 h
  match t, h with
  | 0, h =>
      replace h := fe_R_X0_swapMarks_0 h
      unfold tr_R_X0_swapMarks_0 at h
      show sf_G p l e (headSpec wsX0_swapMarks ({ frames := 0, cells := 0, slots := 0, locals := 0 })).room s m args below meth c (sf_Qi D vwCl q dA KX (sf_EX q tv ta tb) below args s r τ) 3 D vwCl q dA KX σ 0 [(0, .ref (q 1))] []
      refine sf_iconst (v := 0) X dX0_swapMarks_0 sf_ic_0 rfl ?_
      refine sf_istore_n (i := 1) (lv' := [(1, .int (0 : Int32)), (0, .ref (q 1))]) X dX0_swapMarks_1 rfl (by decide) rfl rfl ?_
      refine sf_iconst (v := 0) X dX0_swapMarks_2 sf_ic_0 rfl ?_
      refine sf_istore_n (i := 2) (lv' := [(2, .int (0 : Int32)), (1, .int (0 : Int32)), (0, .ref (q 1))]) X dX0_swapMarks_3 rfl (by decide) rfl rfl ?_
      refine sf_loc (lv' := [(0, .ref (q 1)), (1, .int (0 : Int32)), (2, .int (0 : Int32))]) [2, 1, 0] rfl ?_
      exact h
  | 1, h =>
      replace h := fe_R_X0_swapMarks_1 h
      unfold tr_R_X0_swapMarks_1 at h
      show sf_G p l e (headSpec wsX0_swapMarks ({ frames := 0, cells := 0, slots := 0, locals := 0 })).room s m args below meth c (sf_Qi D vwCl q dA KX (sf_EX q tv ta tb) below args s r τ) 3 D vwCl q dA KX σ 4 [(0, .ref (q 1)), (1, .int u0), (2, .int u1)] []
      refine sf_iload_n (i := 2) (j := 2) X dX0_swapMarks_4 rfl rfl rfl ?_
      refine sf_aload_n (i := 0) (j := 0) X dX0_swapMarks_5 rfl rfl rfl ?_
      refine sf_getI (C := RX0) (T := TX0) (N := 10) (ci := 0) (j := 8) X (fun w h => sf_memc (inX0 w h)) rfl rfl (by decide) (X.1.2.2.2.2 _ (sf_memc tw_96)) (fun _ h9 => h9) rfl dX0_swapMarks_6 rfl ?_
      refine sf_icmp_ge (tgt := 51) X dX0_swapMarks_9 rfl rfl (fun c1 => ?_) (fun c1 => ?_)
      · have h := sf_ift c1 h
        refine sf_iload_n (i := 1) (j := 1) X dX0_swapMarks_51 rfl rfl rfl ?_
        exact sf_reti X h dX0_swapMarks_52
      · have h := sf_iff c1 h
        refine sf_aload_n (i := 0) (j := 0) X dX0_swapMarks_12 rfl rfl rfl ?_
        refine sf_getR (C := RX0) (T := TX0) (N := 10) (ci := 0) (j := 7) (k' := 8) X (fun w h => sf_memc (inX0 w h)) rfl rfl (by decide) (X.1.2.2.2.2 _ (sf_memc tw_95)) (fun _ h9 => h9) rfl dX0_swapMarks_13 rfl ?_
        refine sf_iload_n (i := 2) (j := 2) X dX0_swapMarks_16 rfl rfl rfl ?_
        obtain ⟨b2, h⟩ := h
        refine sf_iald X rfl b2 dX0_swapMarks_17 rfl ?_
        refine sf_if_eq (tgt := 45) X dX0_swapMarks_18 rfl rfl (fun c3 => ?_) (fun c3 => ?_)
        · have h := sf_ift c3 h
          refine sf_iinc (i := 2) (j := 2) (d := 1) (lv' := fun y4 => [(2, .int y4), (0, .ref (q 1)), (1, .int u0)]) X dX0_swapMarks_45 rfl sf_ic_1 (by decide) (fun _ => rfl) rfl (fun y4 hy4 => ?_)
          have h := h y4 hy4
          refine sf_goto (tgt := 4) X dX0_swapMarks_48 rfl ?_
          refine sf_loc (lv' := [(0, .ref (q 1)), (1, .int u0), (2, .int y4)]) [1, 2, 0] rfl ?_
          exact h
        · have h := sf_iff c3 h
          refine sf_aload_n (i := 0) (j := 0) X dX0_swapMarks_21 rfl rfl rfl ?_
          refine sf_getR (C := RX0) (T := TX0) (N := 10) (ci := 0) (j := 7) (k' := 8) X (fun w h => sf_memc (inX0 w h)) rfl rfl (by decide) (X.1.2.2.2.2 _ (sf_memc tw_95)) (fun _ h9 => h9) rfl dX0_swapMarks_22 rfl ?_
          refine sf_iload_n (i := 2) (j := 2) X dX0_swapMarks_25 rfl rfl rfl ?_
          refine sf_aload_n (i := 0) (j := 0) X dX0_swapMarks_26 rfl rfl rfl ?_
          refine sf_getR (C := RX0) (T := TX0) (N := 10) (ci := 0) (j := 7) (k' := 8) X (fun w h => sf_memc (inX0 w h)) rfl rfl (by decide) (X.1.2.2.2.2 _ (sf_memc tw_95)) (fun _ h9 => h9) rfl dX0_swapMarks_27 rfl ?_
          refine sf_iload_n (i := 2) (j := 2) X dX0_swapMarks_30 rfl rfl rfl ?_
          obtain ⟨b5, h⟩ := h
          refine sf_iald X rfl b5 dX0_swapMarks_31 rfl ?_
          refine sf_iconst (v := 1) X dX0_swapMarks_32 sf_ic_1 rfl ?_
          refine sf_icmp_ne (tgt := 40) X dX0_swapMarks_33 rfl rfl (fun c6 => ?_) (fun c6 => ?_)
          · have h := sf_iff c6 h
            refine sf_iconst (v := 1) X dX0_swapMarks_40 sf_ic_1 rfl ?_
            obtain ⟨b7, h⟩ := h
            refine sf_iast X rfl b7 dX0_swapMarks_41 rfl (fun τ8 hτ8 => ?_)
            have h := h τ8 hτ8
            refine sf_iinc (i := 1) (j := 1) (d := 1) (lv' := fun y9 => [(1, .int y9), (0, .ref (q 1)), (2, .int u1)]) X dX0_swapMarks_42 rfl sf_ic_1 (by decide) (fun _ => rfl) rfl (fun y9 hy9 => ?_)
            have h := h y9 hy9
            refine sf_iinc (i := 2) (j := 2) (d := 1) (lv' := fun y10 => [(2, .int y10), (1, .int y9), (0, .ref (q 1))]) X dX0_swapMarks_45 rfl sf_ic_1 (by decide) (fun _ => rfl) rfl (fun y10 hy10 => ?_)
            have h := h y10 hy10
            refine sf_goto (tgt := 4) X dX0_swapMarks_48 rfl ?_
            refine sf_loc (lv' := [(0, .ref (q 1)), (1, .int y9), (2, .int y10)]) [2, 1, 0] rfl ?_
            exact h
          · have h := sf_ift c6 h
            refine sf_iconst (v := 2) X dX0_swapMarks_36 sf_ic_2 rfl ?_
            refine sf_goto (tgt := 41) X dX0_swapMarks_37 rfl ?_
            obtain ⟨b11, h⟩ := h
            refine sf_iast X rfl b11 dX0_swapMarks_41 rfl (fun τ12 hτ12 => ?_)
            have h := h τ12 hτ12
            refine sf_iinc (i := 1) (j := 1) (d := 1) (lv' := fun y13 => [(1, .int y13), (0, .ref (q 1)), (2, .int u1)]) X dX0_swapMarks_42 rfl sf_ic_1 (by decide) (fun _ => rfl) rfl (fun y13 hy13 => ?_)
            have h := h y13 hy13
            refine sf_iinc (i := 2) (j := 2) (d := 1) (lv' := fun y14 => [(2, .int y14), (1, .int y13), (0, .ref (q 1))]) X dX0_swapMarks_45 rfl sf_ic_1 (by decide) (fun _ => rfl) rfl (fun y14 hy14 => ?_)
            have h := h y14 hy14
            refine sf_goto (tgt := 4) X dX0_swapMarks_48 rfl ?_
            refine sf_loc (lv' := [(0, .ref (q 1)), (1, .int y13), (2, .int y14)]) [2, 1, 0] rfl ?_
            exact h
  | (_ + 2), _ => exact trivial
def R_X6_flip (σ : sf_St) (r : Int32) (τ : sf_St) : Prop :=
  ∀ τ1 : sf_St, τ1 = sf_up σ 0 10 (0 : Int32) → (∃ (r4 : Int32) (τ3 : sf_St), R_X0_swapMarks τ1 r4 τ3 ∧ (r = r4 ∧ τ = τ3))
set_option maxHeartbeats 4000000 in
set_option maxRecDepth 100000 in
theorem c_X6_flip {l : Launch} {D : va_G} {q : Nat → Nat} {dA : Nat → ClassId} {tv ta tb : Nat} (hq : sf_inj q KX) {σ τ : sf_St} {r : Int32} (h : R_X6_flip σ  r τ) : sf_Mi l yX6_flip wsX6_flip ({ frames := 1, cells := 0, slots := 0, locals := 22 }) D vwCl q dA KX (sf_EX q tv ta tb) [.ref (q 0)] σ r τ := by
  refine sf_meti (cc := cX6_flip) (maxL := 1) (ret := (some .int)) (own := RX6) (by decide +kernel) rfl rfl hq sf_EXk (Nat.le_of_ble_eq_true rfl) ?_
  intro p e s m args below meth c X
  have hT := X.2.2.2.1.2.1
  unfold R_X6_flip at h
  refine sf_loc (lv' := [(0, .ref (q 0))]) [0] rfl ?_
  refine sf_aload_n (i := 0) (j := 0) X dX6_flip_0 rfl rfl rfl ?_
  refine sf_iconst (v := 0) X dX6_flip_1 sf_ic_0 rfl ?_
  refine sf_putI (C := RX6) (T := TX6) (N := 11) (ci := 6) (j := 10) (ty := .boolean) X (fun w h => sf_memc (inX6 w h)) rfl rfl (by decide) (X.1.2.2.2.2 _ (sf_memc tw_234)) (fun _ h9 => h9) tyX6 tyX6_ok nmX6 rfl (by decide +kernel) rfl rfl rfl dX6_flip_2 rfl (fun τ1 hτ1 => ?_)
  have h := h τ1 hτ1
  refine sf_aload_n (i := 0) (j := 0) X dX6_flip_5 rfl rfl rfl ?_
  refine sf_getR (C := RX6) (T := TX6) (N := 11) (ci := 6) (j := 0) (k' := 1) X (fun w h => sf_memc (inX6 w h)) rfl rfl (by decide) (X.1.2.2.2.2 _ (sf_memc tw_224)) (fun _ h9 => h9) rfl dX6_flip_6 rfl ?_
  obtain ⟨r4, τ3, hR2, h⟩ := h
  refine sf_callVi (As := []) (rest := []) (cv := (RX0, TX0, 10)) X rfl rfl (c_X0_swapMarks hq hR2) (cwV 0 X.1.2.2.2.2 (sf_gV tw_334 tw_335 tw_336 tw_42 tw_337) rfl rfl rfl ⟨rfl, hd_X0_swapMarks⟩ ⟨Nat.le_of_ble_eq_true rfl, Nat.le_of_ble_eq_true rfl⟩) rfl rfl (Nat.le_of_ble_eq_true rfl) dX6_flip_9 rfl ?_
  exact sf_reti X h dX6_flip_12
