def R_X2_copyFrom (na nn na1 nn1 : Nat) (σ : sf_St) (τ : sf_St) : Prop :=
  ∀ τ1 : sf_St, τ1 = sf_upc σ na (va_cpy (σ na1) (σ na) (sf_ix (0 : Int32)) (sf_ix (0 : Int32)) (sf_ix (7 : Int32))) → (∀ τ2 : sf_St, τ2 = sf_upc τ1 nn (va_cpy (τ1 nn1) (τ1 nn) (sf_ix (0 : Int32)) (sf_ix (0 : Int32)) (sf_ix (7 : Int32))) → (τ = τ2))
set_option maxHeartbeats 4000000 in
set_option maxRecDepth 100000 in
theorem c_X2_copyFrom {l : Launch} {D : va_G} {q : Nat → Nat} {dA : Nat → ClassId} {tv ta tb : Nat} (hq : sf_inj q KX) {σ τ : sf_St} (h : R_X2_copyFrom 30 31 33 34 σ  τ) : sf_Mv l yX2_copyFrom wsX2_copyFrom ({ frames := 1, cells := 0, slots := 0, locals := 40 }) D vwCl q dA KX (sf_EX q tv ta tb) [.ref (q 29), .ref (q 32)] σ τ := by
  refine sf_metv (cc := cX2_copyFrom) (maxL := 2) (ret := none) (own := RX2) (by decide +kernel) rfl rfl hq sf_EXk (Nat.le_of_ble_eq_true rfl) ?_
  intro p e s m args below meth c X
  have hT := X.2.2.2.1.2.1
  unfold R_X2_copyFrom at h
  refine sf_loc (lv' := [(0, .ref (q 29)), (1, .ref (q 32))]) [0, 1] rfl ?_
  refine sf_aload_n (i := 1) (j := 1) X dX2_copyFrom_0 rfl rfl rfl ?_
  refine sf_getR (C := RX2) (T := TX2) (N := 2) (ci := 2) (j := 0) (k' := 33) X (fun w h => sf_memc (inX2 w h)) rfl rfl (by decide) (X.1.2.2.2.2 _ (sf_memc tw_158)) (fun _ h9 => h9) rfl dX2_copyFrom_1 rfl ?_
  refine sf_iconst (v := 0) X dX2_copyFrom_4 sf_ic_0 rfl ?_
  refine sf_aload_n (i := 0) (j := 0) X dX2_copyFrom_5 rfl rfl rfl ?_
  refine sf_getR (C := RX2) (T := TX2) (N := 2) (ci := 2) (j := 0) (k' := 30) X (fun w h => sf_memc (inX2 w h)) rfl rfl (by decide) (X.1.2.2.2.2 _ (sf_memc tw_158)) (fun _ h9 => h9) rfl dX2_copyFrom_6 rfl ?_
  refine sf_iconst (v := 0) X dX2_copyFrom_9 sf_ic_0 rfl ?_
  refine sf_bipush (v := 7) X dX2_copyFrom_10 sf_bc_7 rfl ?_
  refine sf_copy (t := 0) (n0 := 7) (n1 := 7) (ty := .int) X (X.1.2.2.2.2 _ (sf_memc tw_466)) (X.1.2.2.2.2 _ (sf_memc tw_468)) (X.1.2.2.2.2 _ (sf_memc tw_467)) (X.1.2.2.2.2 _ (sf_memc tw_51)) rfl rfl (by decide) rfl rfl (by decide) (by decide) (by decide) (by decide) (by decide) (fun _ _ => rfl) (Nat.le_of_ble_eq_true rfl) (Nat.le_of_ble_eq_true rfl) dX2_copyFrom_12 rfl (fun τ1 hτ1 => ?_)
  have h := h τ1 hτ1
  refine sf_aload_n (i := 1) (j := 1) X dX2_copyFrom_15 rfl rfl rfl ?_
  refine sf_getR (C := RX2) (T := TX2) (N := 2) (ci := 2) (j := 1) (k' := 34) X (fun w h => sf_memc (inX2 w h)) rfl rfl (by decide) (X.1.2.2.2.2 _ (sf_memc tw_161)) (fun _ h9 => h9) rfl dX2_copyFrom_16 rfl ?_
  refine sf_iconst (v := 0) X dX2_copyFrom_19 sf_ic_0 rfl ?_
  refine sf_aload_n (i := 0) (j := 0) X dX2_copyFrom_20 rfl rfl rfl ?_
  refine sf_getR (C := RX2) (T := TX2) (N := 2) (ci := 2) (j := 1) (k' := 31) X (fun w h => sf_memc (inX2 w h)) rfl rfl (by decide) (X.1.2.2.2.2 _ (sf_memc tw_161)) (fun _ h9 => h9) rfl dX2_copyFrom_21 rfl ?_
  refine sf_iconst (v := 0) X dX2_copyFrom_24 sf_ic_0 rfl ?_
  refine sf_bipush (v := 7) X dX2_copyFrom_25 sf_bc_7 rfl ?_
  refine sf_copy (t := 0) (n0 := 7) (n1 := 7) (ty := .int) X (X.1.2.2.2.2 _ (sf_memc tw_466)) (X.1.2.2.2.2 _ (sf_memc tw_468)) (X.1.2.2.2.2 _ (sf_memc tw_467)) (X.1.2.2.2.2 _ (sf_memc tw_51)) rfl rfl (by decide) rfl rfl (by decide) (by decide) (by decide) (by decide) (by decide) (fun _ _ => rfl) (Nat.le_of_ble_eq_true rfl) (Nat.le_of_ble_eq_true rfl) dX2_copyFrom_27 rfl (fun τ2 hτ2 => ?_)
  have h := h τ2 hτ2
  exact sf_retv X h dX2_copyFrom_30
def R_X3_weigh (sa sb sh sr : Nat) (σ : sf_St) (τ : sf_St) : Prop :=
  ∃ (r3 : Int32) (τ2 : sf_St), R_X2_code sa sb sh sr σ r3 τ2 ∧ (if (τ2 27 4) ≤ r3 then (τ = τ2) else (∀ τ5 : sf_St, τ5 = sf_up τ2 27 4 r3 → (∃ τ7 : sf_St, R_X2_copyFrom 30 31 33 34 τ5 τ7 ∧ (τ = τ7))))
set_option maxHeartbeats 4000000 in
set_option maxRecDepth 100000 in
theorem c_X3_weigh {l : Launch} {D : va_G} {q : Nat → Nat} {dA : Nat → ClassId} {tv ta tb : Nat} (hq : sf_inj q KX) {σ τ : sf_St} (h : R_X3_weigh 18 19 20 21 σ  τ) : sf_Mv l yX3_weigh wsX3_weigh ({ frames := 3, cells := 0, slots := 0, locals := 79 }) D vwCl q dA KX (sf_EX q tv ta tb) [.ref (q 27), .ref (q 1), .ref (q 17)] σ τ := by
  refine sf_metv (cc := cX3_weigh) (maxL := 4) (ret := none) (own := RX3) (by decide +kernel) rfl rfl hq sf_EXk (Nat.le_of_ble_eq_true rfl) ?_
  intro p e s m args below meth c X
  have hT := X.2.2.2.1.2.1
  unfold R_X3_weigh at h
  refine sf_loc (lv' := [(0, .ref (q 27)), (1, .ref (q 1)), (2, .ref (q 17))]) [0, 1, 2] rfl ?_
  refine sf_aload_n (i := 0) (j := 0) X dX3_weigh_0 rfl rfl rfl ?_
  refine sf_getR (C := RX3) (T := TX3) (N := 5) (ci := 3) (j := 2) (k' := 32) X (fun w h => sf_memc (inX3 w h)) rfl rfl (by decide) (X.1.2.2.2.2 _ (sf_memc tw_173)) (fun _ h9 => h9) rfl dX3_weigh_1 rfl ?_
  refine sf_aload_n (i := 1) (j := 1) X dX3_weigh_4 rfl rfl rfl ?_
  refine sf_aload_n (i := 2) (j := 2) X dX3_weigh_5 rfl rfl rfl ?_
  obtain ⟨r3, τ2, hR1, h⟩ := h
  refine sf_callVi (As := [.ref (q 1), .ref (q 17)]) (rest := []) (cv := (RX2, TX2, 2)) X rfl rfl (c_X2_code hq hR1) (cwV 2 X.1.2.2.2.2 (sf_gV tw_445 tw_446 tw_447 tw_45 tw_448) rfl rfl rfl ⟨rfl, hd_X2_code⟩ ⟨Nat.le_of_ble_eq_true rfl, Nat.le_of_ble_eq_true rfl⟩) rfl rfl (Nat.le_of_ble_eq_true rfl) dX3_weigh_6 rfl ?_
  refine sf_istore_n (i := 3) (lv' := [(3, .int r3), (0, .ref (q 27)), (1, .ref (q 1)), (2, .ref (q 17))]) X dX3_weigh_9 rfl (by decide) rfl rfl ?_
  refine sf_iload_n (i := 3) (j := 0) X dX3_weigh_10 rfl rfl rfl ?_
  refine sf_aload_n (i := 0) (j := 1) X dX3_weigh_11 rfl rfl rfl ?_
  refine sf_getI (C := RX3) (T := TX3) (N := 5) (ci := 3) (j := 4) X (fun w h => sf_memc (inX3 w h)) rfl rfl (by decide) (X.1.2.2.2.2 _ (sf_memc tw_175)) (fun _ h9 => h9) rfl dX3_weigh_12 rfl ?_
  refine sf_icmp_ge (tgt := 34) X dX3_weigh_15 rfl rfl (fun c4 => ?_) (fun c4 => ?_)
  · have h := sf_ift c4 h
    exact sf_retv X h dX3_weigh_34
  · have h := sf_iff c4 h
    refine sf_aload_n (i := 0) (j := 1) X dX3_weigh_18 rfl rfl rfl ?_
    refine sf_iload_n (i := 3) (j := 0) X dX3_weigh_19 rfl rfl rfl ?_
    refine sf_putI (C := RX3) (T := TX3) (N := 5) (ci := 3) (j := 4) (ty := .int) X (fun w h => sf_memc (inX3 w h)) rfl rfl (by decide) (X.1.2.2.2.2 _ (sf_memc tw_175)) (fun _ h9 => h9) tyX3 tyX3_ok nmX3 rfl (by decide +kernel) rfl rfl rfl dX3_weigh_20 rfl (fun τ5 hτ5 => ?_)
    have h := h τ5 hτ5
    refine sf_aload_n (i := 0) (j := 1) X dX3_weigh_23 rfl rfl rfl ?_
    refine sf_getR (C := RX3) (T := TX3) (N := 5) (ci := 3) (j := 1) (k' := 29) X (fun w h => sf_memc (inX3 w h)) rfl rfl (by decide) (X.1.2.2.2.2 _ (sf_memc tw_171)) (fun _ h9 => h9) rfl dX3_weigh_24 rfl ?_
    refine sf_aload_n (i := 0) (j := 1) X dX3_weigh_27 rfl rfl rfl ?_
    refine sf_getR (C := RX3) (T := TX3) (N := 5) (ci := 3) (j := 2) (k' := 32) X (fun w h => sf_memc (inX3 w h)) rfl rfl (by decide) (X.1.2.2.2.2 _ (sf_memc tw_173)) (fun _ h9 => h9) rfl dX3_weigh_28 rfl ?_
    obtain ⟨τ7, hR6, h⟩ := h
    refine sf_callVv (As := [.ref (q 32)]) (rest := []) (cv := (RX2, TX2, 2)) X rfl rfl (c_X2_copyFrom hq hR6) (cwV 1 X.1.2.2.2.2 (sf_gV tw_462 tw_463 tw_464 tw_45 tw_465) rfl rfl rfl ⟨rfl, hd_X2_copyFrom⟩ ⟨Nat.le_of_ble_eq_true rfl, Nat.le_of_ble_eq_true rfl⟩) rfl rfl (Nat.le_of_ble_eq_true rfl) dX3_weigh_31 rfl ?_
    exact sf_retv X h dX3_weigh_34
def R_X2_give (σ : sf_St) (u0 u1 : Int32) (τ : sf_St) : Prop :=
  vp_in u1 7 ∧ (∀ τ2 : sf_St, τ2 = sf_up σ 33 (sf_ix u1) u0 → (vp_in u0 7 ∧ (∀ τ4 : sf_St, τ4 = sf_up τ2 34 (sf_ix u0) u1 → (τ = τ4))))
set_option maxHeartbeats 4000000 in
set_option maxRecDepth 100000 in
theorem c_X2_give {l : Launch} {D : va_G} {q : Nat → Nat} {dA : Nat → ClassId} {tv ta tb : Nat} (hq : sf_inj q KX) {σ τ : sf_St} {u0 u1 : Int32} (h : R_X2_give σ u0 u1 τ) : sf_Mv l yX2_give wsX2_give ({ frames := 0, cells := 0, slots := 0, locals := 0 }) D vwCl q dA KX (sf_EX q tv ta tb) [.ref (q 32), .int u0, .int u1] σ τ := by
  refine sf_metv (cc := cX2_give) (maxL := 3) (ret := none) (own := RX2) (by decide +kernel) rfl rfl hq sf_EXk (Nat.le_of_ble_eq_true rfl) ?_
  intro p e s m args below meth c X
  have hT := X.2.2.2.1.2.1
  unfold R_X2_give at h
  refine sf_loc (lv' := [(0, .ref (q 32)), (1, .int u0), (2, .int u1)]) [0, 1, 2] rfl ?_
  refine sf_aload_n (i := 0) (j := 0) X dX2_give_0 rfl rfl rfl ?_
  refine sf_getR (C := RX2) (T := TX2) (N := 2) (ci := 2) (j := 0) (k' := 33) X (fun w h => sf_memc (inX2 w h)) rfl rfl (by decide) (X.1.2.2.2.2 _ (sf_memc tw_158)) (fun _ h9 => h9) rfl dX2_give_1 rfl ?_
  refine sf_iload_n (i := 2) (j := 2) X dX2_give_4 rfl rfl rfl ?_
  refine sf_iload_n (i := 1) (j := 1) X dX2_give_5 rfl rfl rfl ?_
  obtain ⟨b1, h⟩ := h
  refine sf_iast X rfl b1 dX2_give_6 rfl (fun τ2 hτ2 => ?_)
  have h := h τ2 hτ2
  refine sf_aload_n (i := 0) (j := 0) X dX2_give_7 rfl rfl rfl ?_
  refine sf_getR (C := RX2) (T := TX2) (N := 2) (ci := 2) (j := 1) (k' := 34) X (fun w h => sf_memc (inX2 w h)) rfl rfl (by decide) (X.1.2.2.2.2 _ (sf_memc tw_161)) (fun _ h9 => h9) rfl dX2_give_8 rfl ?_
  refine sf_iload_n (i := 1) (j := 1) X dX2_give_11 rfl rfl rfl ?_
  refine sf_iload_n (i := 2) (j := 2) X dX2_give_12 rfl rfl rfl ?_
  obtain ⟨b3, h⟩ := h
  refine sf_iast X rfl b3 dX2_give_13 rfl (fun τ4 hτ4 => ?_)
  have h := h τ4 hτ4
  exact sf_retv X h dX2_give_14
def R_X2_takeBack (σ : sf_St) (u0 u1 : Int32) (τ : sf_St) : Prop :=
  vp_in u1 7 ∧ (∀ τ2 : sf_St, τ2 = sf_up σ 33 (sf_ix u1) (-1 : Int32) → (vp_in u0 7 ∧ (∀ τ4 : sf_St, τ4 = sf_up τ2 34 (sf_ix u0) (-1 : Int32) → (τ = τ4))))
set_option maxHeartbeats 4000000 in
set_option maxRecDepth 100000 in
theorem c_X2_takeBack {l : Launch} {D : va_G} {q : Nat → Nat} {dA : Nat → ClassId} {tv ta tb : Nat} (hq : sf_inj q KX) {σ τ : sf_St} {u0 u1 : Int32} (h : R_X2_takeBack σ u0 u1 τ) : sf_Mv l yX2_takeBack wsX2_takeBack ({ frames := 0, cells := 0, slots := 0, locals := 0 }) D vwCl q dA KX (sf_EX q tv ta tb) [.ref (q 32), .int u0, .int u1] σ τ := by
  refine sf_metv (cc := cX2_takeBack) (maxL := 3) (ret := none) (own := RX2) (by decide +kernel) rfl rfl hq sf_EXk (Nat.le_of_ble_eq_true rfl) ?_
  intro p e s m args below meth c X
  have hT := X.2.2.2.1.2.1
  unfold R_X2_takeBack at h
  refine sf_loc (lv' := [(0, .ref (q 32)), (1, .int u0), (2, .int u1)]) [0, 1, 2] rfl ?_
  refine sf_aload_n (i := 0) (j := 0) X dX2_takeBack_0 rfl rfl rfl ?_
  refine sf_getR (C := RX2) (T := TX2) (N := 2) (ci := 2) (j := 0) (k' := 33) X (fun w h => sf_memc (inX2 w h)) rfl rfl (by decide) (X.1.2.2.2.2 _ (sf_memc tw_158)) (fun _ h9 => h9) rfl dX2_takeBack_1 rfl ?_
  refine sf_iload_n (i := 2) (j := 2) X dX2_takeBack_4 rfl rfl rfl ?_
  refine sf_iconst (v := (-1)) X dX2_takeBack_5 sf_ic_m1 rfl ?_
  obtain ⟨b1, h⟩ := h
  refine sf_iast X rfl b1 dX2_takeBack_6 rfl (fun τ2 hτ2 => ?_)
  have h := h τ2 hτ2
  refine sf_aload_n (i := 0) (j := 0) X dX2_takeBack_7 rfl rfl rfl ?_
  refine sf_getR (C := RX2) (T := TX2) (N := 2) (ci := 2) (j := 1) (k' := 34) X (fun w h => sf_memc (inX2 w h)) rfl rfl (by decide) (X.1.2.2.2.2 _ (sf_memc tw_161)) (fun _ h9 => h9) rfl dX2_takeBack_8 rfl ?_
  refine sf_iload_n (i := 1) (j := 1) X dX2_takeBack_11 rfl rfl rfl ?_
  refine sf_iconst (v := (-1)) X dX2_takeBack_12 sf_ic_m1 rfl ?_
  obtain ⟨b3, h⟩ := h
  refine sf_iast X rfl b3 dX2_takeBack_13 rfl (fun τ4 hτ4 => ?_)
  have h := h τ4 hτ4
  exact sf_retv X h dX2_takeBack_14
def R_X0_isAlone (σ : sf_St) (u0 : Int32) (r : Int32) (τ : sf_St) : Prop :=
  ∃ (r3 : Int32) (τ2 : sf_St), R_X0_freeValence σ u0 r3 τ2 ∧ (vp_in u0 7 ∧ (vp_in (τ2 2 (sf_ix u0)) 6 ∧ (if r3 = (sf_val (τ2 2 (sf_ix u0))) then (r = (1 : Int32) ∧ τ = τ2) else (r = (0 : Int32) ∧ τ = τ2))))
set_option maxHeartbeats 4000000 in
set_option maxRecDepth 100000 in
theorem c_X0_isAlone {l : Launch} {D : va_G} {q : Nat → Nat} {dA : Nat → ClassId} {tv ta tb : Nat} (hq : sf_inj q KX) {σ τ : sf_St} {u0 : Int32} {r : Int32} (h : R_X0_isAlone σ u0 r τ) : sf_Mi l yX0_isAlone wsX0_isAlone ({ frames := 2, cells := 0, slots := 0, locals := 46 }) D vwCl q dA KX (sf_EX q tv ta tb) [.ref (q 1), .int u0] σ r τ := by
  refine sf_meti (cc := cX0_isAlone) (maxL := 2) (ret := (some .boolean)) (own := RX0) (by decide +kernel) rfl rfl hq sf_EXk (Nat.le_of_ble_eq_true rfl) ?_
  intro p e s m args below meth c X
  have hT := X.2.2.2.1.2.1
  unfold R_X0_isAlone at h
  refine sf_loc (lv' := [(0, .ref (q 1)), (1, .int u0)]) [0, 1] rfl ?_
  refine sf_aload_n (i := 0) (j := 0) X dX0_isAlone_0 rfl rfl rfl ?_
  refine sf_iload_n (i := 1) (j := 1) X dX0_isAlone_1 rfl rfl rfl ?_
  obtain ⟨r3, τ2, hR1, h⟩ := h
  refine sf_callVi (As := [.int u0]) (rest := []) (cv := (RX0, TX0, 10)) X rfl rfl (c_X0_freeValence hq hR1) (cwV 1 X.1.2.2.2.2 (sf_gV tw_495 tw_287 tw_288 tw_42 tw_289) rfl rfl rfl ⟨rfl, hd_X0_freeValence⟩ ⟨Nat.le_of_ble_eq_true rfl, Nat.le_of_ble_eq_true rfl⟩) rfl rfl (Nat.le_of_ble_eq_true rfl) dX0_isAlone_2 rfl ?_
  refine sf_getsN (v := .ref tv) X X.2.2.2.1.1 (va_Nw.use rfl (X.2.2.2.1.2.2.1 _ (List.mem_of_getElem? (i := 0) rfl))) (fun _ h9 => h9) dX0_isAlone_5 rfl ?_
  refine sf_aload_n (i := 0) (j := 0) X dX0_isAlone_8 rfl rfl rfl ?_
  refine sf_getR (C := RX0) (T := TX0) (N := 10) (ci := 0) (j := 0) (k' := 2) X (fun w h => sf_memc (inX0 w h)) rfl rfl (by decide) (X.1.2.2.2.2 _ (sf_memc tw_72)) (fun _ h9 => h9) rfl dX0_isAlone_9 rfl ?_
  refine sf_iload_n (i := 1) (j := 1) X dX0_isAlone_12 rfl rfl rfl ?_
  obtain ⟨b4, h⟩ := h
  refine sf_iald X rfl b4 dX0_isAlone_13 rfl ?_
  obtain ⟨b5, h⟩ := h
  refine sf_ti (v := sf_val (τ2 2 (sf_ix u0))) X hT b5 rfl dX0_isAlone_14 rfl ?_
  refine sf_icmp_ne (tgt := 22) X dX0_isAlone_15 rfl rfl (fun c6 => ?_) (fun c6 => ?_)
  · have h := sf_iff c6 h
    refine sf_iconst (v := 0) X dX0_isAlone_22 sf_ic_0 rfl ?_
    exact sf_retz X h rfl dX0_isAlone_23
  · have h := sf_ift c6 h
    refine sf_iconst (v := 1) X dX0_isAlone_18 sf_ic_1 rfl ?_
    refine sf_goto (tgt := 23) X dX0_isAlone_19 rfl ?_
    exact sf_retz X h rfl dX0_isAlone_23
def tr_R_X3_place_0 (sa sb sh sr : Nat) (Rc : sf_St → Int32 → sf_St → Prop) (Pr : Nat → sf_St → Int32 → Int32 → Int32 → Prop) (τ : sf_St) (σ : sf_St) (u0 u1 u2 : Int32) : Prop :=
  if u0 < (σ 1 3) then (∃ (r4 : Int32) (τ3 : sf_St), R_X3_lowestRow σ u0 r4 τ3 ∧ (vp_in u0 7 ∧ (if r4 ≤ (τ3 28 (sf_ix u0)) then (vp_in u0 7 ∧ (if (τ3 28 (sf_ix u0)) ≤ r4 then (Pr 1 τ3 u0 r4 (0 : Int32)) else (∃ τ10 : sf_St, R_X3_lower τ3 u0 r4 τ10 ∧ (Pr 1 τ10 u0 r4 (0 : Int32))))) else (τ = τ3)))) else (∃ τ12 : sf_St, R_X3_weigh sa sb sh sr σ τ12 ∧ (τ = τ12))
def tr_R_X3_place_1 (sa sb sh sr : Nat) (Rc : sf_St → Int32 → sf_St → Prop) (Pr : Nat → sf_St → Int32 → Int32 → Int32 → Prop) (τ : sf_St) (σ : sf_St) (u0 u1 u2 : Int32) : Prop :=
  if (σ 1 3) ≤ u2 then (τ = σ) else (vp_in u2 7 ∧ (if (σ 34 (sf_ix u2)) = (-1 : Int32) then (∃ (r19 : Int32) (τ18 : sf_St), R_X3_rowOf σ u2 u0 r19 τ18 ∧ (if r19 = u1 then (∃ τ23 : sf_St, R_X2_give τ18 u2 u0 τ23 ∧ (∃ τ25 : sf_St, Rc τ23 (u0 + (1 : Int32)) τ25 ∧ (∃ τ27 : sf_St, R_X2_takeBack τ25 u2 u0 τ27 ∧ (∃ (r30 : Int32) (τ29 : sf_St), R_X0_isAlone τ27 u2 r30 τ29 ∧ (if r30 = (0 : Int32) then (∀ y32 : Int32, y32 = u2 + (1 : Int32) → (Pr 1 τ29 u0 u1 y32)) else (τ = τ29)))))) else (∀ y21 : Int32, y21 = u2 + (1 : Int32) → (Pr 1 τ18 u0 u1 y21)))) else (∀ y16 : Int32, y16 = u2 + (1 : Int32) → (Pr 1 σ u0 u1 y16))))
def fn_R_X3_place (sa sb sh sr : Nat) (Rc : sf_St → Int32 → sf_St → Prop) (Pr : Nat → sf_St → Int32 → Int32 → Int32 → Prop) (τ : sf_St) (t : Nat) (σ : sf_St) (u0 u1 u2 : Int32) : Prop := match t with
  | 0 => tr_R_X3_place_0 sa sb sh sr Rc Pr τ σ u0 u1 u2
  | 1 => tr_R_X3_place_1 sa sb sh sr Rc Pr τ σ u0 u1 u2
  | _ => False
def Rn_R_X3_place (sa sb sh sr : Nat) (Rc : sf_St → Int32 → sf_St → Prop) (t : Nat) (σ : sf_St) (u0 u1 u2 : Int32) (τ : sf_St) : Prop := ∀ Pr : Nat → sf_St → Int32 → Int32 → Int32 → Prop, (∀ (t : Nat) (σ : sf_St) (u0 u1 u2 : Int32), fn_R_X3_place sa sb sh sr Rc Pr τ t σ u0 u1 u2 → Pr t σ u0 u1 u2) → Pr t σ u0 u1 u2
def R_X3_place (sa sb sh sr : Nat) (Rc : sf_St → Int32 → sf_St → Prop) (σ : sf_St) (u0 : Int32) (τ : sf_St) : Prop := Rn_R_X3_place sa sb sh sr Rc 0 σ u0 0 0 τ
theorem fe_R_X3_place_0 {sa sb sh sr : Nat} {Rc : sf_St → Int32 → sf_St → Prop} {Pr : Nat → sf_St → Int32 → Int32 → Int32 → Prop} {τ σ : sf_St} {u0 u1 u2 : Int32} (h : fn_R_X3_place sa sb sh sr Rc Pr τ 0 σ u0 u1 u2) : tr_R_X3_place_0 sa sb sh sr Rc Pr τ σ u0 u1 u2 := h
theorem mo_R_X3_place_0 {sa sb sh sr : Nat} {Rc : sf_St → Int32 → sf_St → Prop} {Pr Pr' : Nat → sf_St → Int32 → Int32 → Int32 → Prop} {τ σ : sf_St} {u0 u1 u2 : Int32} (hP : ∀ (t : Nat) (σ : sf_St) (u0 u1 u2 : Int32), Pr t σ u0 u1 u2 → Pr' t σ u0 u1 u2) (h : tr_R_X3_place_0 sa sb sh sr Rc Pr τ σ u0 u1 u2) : tr_R_X3_place_0 sa sb sh sr Rc Pr' τ σ u0 u1 u2 := by
  unfold tr_R_X3_place_0 at h ⊢
  refine sf_mif (fun h => ?_) (fun h => ?_) h
  · refine Exists.imp (fun _ h => Exists.imp (fun _ h => And.imp id (fun h => ?_) h) h) h
    refine And.imp id (fun h => ?_) h
    refine sf_mif (fun h => ?_) (fun h => ?_) h
    · refine And.imp id (fun h => ?_) h
      refine sf_mif (fun h => ?_) (fun h => ?_) h
      · exact hP _ _ _ _ _ h
      · refine Exists.imp (fun _ h => And.imp id (fun h => ?_) h) h
        exact hP _ _ _ _ _ h
    · exact h
  · refine Exists.imp (fun _ h => And.imp id (fun h => ?_) h) h
    exact h
theorem ru_R_X3_place_0 {sa sb sh sr : Nat} {Rc : sf_St → Int32 → sf_St → Prop} {τ σ : sf_St} {u0 u1 u2 : Int32} (h : tr_R_X3_place_0 sa sb sh sr Rc (fun t σ u0 u1 u2 => Rn_R_X3_place sa sb sh sr Rc t σ u0 u1 u2 τ) τ σ u0 u1 u2) : Rn_R_X3_place sa sb sh sr Rc 0 σ u0 u1 u2 τ := fun Pr hP => hP 0 σ u0 u1 u2 (mo_R_X3_place_0 (fun _ _ _ _ _ h => h Pr hP) h)
theorem fe_R_X3_place_1 {sa sb sh sr : Nat} {Rc : sf_St → Int32 → sf_St → Prop} {Pr : Nat → sf_St → Int32 → Int32 → Int32 → Prop} {τ σ : sf_St} {u0 u1 u2 : Int32} (h : fn_R_X3_place sa sb sh sr Rc Pr τ 1 σ u0 u1 u2) : tr_R_X3_place_1 sa sb sh sr Rc Pr τ σ u0 u1 u2 := h
theorem mo_R_X3_place_1 {sa sb sh sr : Nat} {Rc : sf_St → Int32 → sf_St → Prop} {Pr Pr' : Nat → sf_St → Int32 → Int32 → Int32 → Prop} {τ σ : sf_St} {u0 u1 u2 : Int32} (hP : ∀ (t : Nat) (σ : sf_St) (u0 u1 u2 : Int32), Pr t σ u0 u1 u2 → Pr' t σ u0 u1 u2) (h : tr_R_X3_place_1 sa sb sh sr Rc Pr τ σ u0 u1 u2) : tr_R_X3_place_1 sa sb sh sr Rc Pr' τ σ u0 u1 u2 := by
  unfold tr_R_X3_place_1 at h ⊢
  refine sf_mif (fun h => ?_) (fun h => ?_) h
  · exact h
  · refine And.imp id (fun h => ?_) h
    refine sf_mif (fun h => ?_) (fun h => ?_) h
    · refine Exists.imp (fun _ h => Exists.imp (fun _ h => And.imp id (fun h => ?_) h) h) h
      refine sf_mif (fun h => ?_) (fun h => ?_) h
      · refine Exists.imp (fun _ h => And.imp id (fun h => ?_) h) h
        refine Exists.imp (fun _ h => And.imp id (fun h => ?_) h) h
        refine Exists.imp (fun _ h => And.imp id (fun h => ?_) h) h
        refine Exists.imp (fun _ h => Exists.imp (fun _ h => And.imp id (fun h => ?_) h) h) h
        refine sf_mif (fun h => ?_) (fun h => ?_) h
        · intro y32 hy32
          have h := h y32 hy32
          exact hP _ _ _ _ _ h
        · exact h
      · intro y21 hy21
        have h := h y21 hy21
        exact hP _ _ _ _ _ h
    · intro y16 hy16
      have h := h y16 hy16
      exact hP _ _ _ _ _ h
theorem ru_R_X3_place_1 {sa sb sh sr : Nat} {Rc : sf_St → Int32 → sf_St → Prop} {τ σ : sf_St} {u0 u1 u2 : Int32} (h : tr_R_X3_place_1 sa sb sh sr Rc (fun t σ u0 u1 u2 => Rn_R_X3_place sa sb sh sr Rc t σ u0 u1 u2 τ) τ σ u0 u1 u2) : Rn_R_X3_place sa sb sh sr Rc 1 σ u0 u1 u2 τ := fun Pr hP => hP 1 σ u0 u1 u2 (mo_R_X3_place_1 (fun _ _ _ _ _ h => h Pr hP) h)
def sf_rmP (d : Nat) : Room := { frames := 4 + d, cells := 0, slots := 0, locals := 102 + d * 25 }
theorem sf_rmPf {d : Nat} : (sf_rmP d).frames + 1 ≤ (sf_rmP (d + 1)).frames := Nat.le_refl _
theorem sf_rmPl {d : Nat} : 8 + (6 + 11) + (sf_rmP d).locals ≤ (sf_rmP (d + 1)).locals := by show 8 + (6 + 11) + (102 + d * 25) ≤ 102 + (d + 1) * 25; omega
theorem sf_rmPf0 {n d : Nat} (h : n ≤ 4) : n ≤ (sf_rmP d).frames := Nat.le_trans h (Nat.le_add_right _ _)
theorem sf_rmPl0 {n d : Nat} (h : n ≤ 102) : n ≤ (sf_rmP d).locals := Nat.le_trans h (Nat.le_add_right _ _)
def R_X3_placeD (sa sb sh sr : Nat) : Nat → sf_St → Int32 → sf_St → Prop
  | 0 => fun _ _ _ => False
  | d + 1 => fun σ i τ => R_X3_place sa sb sh sr (R_X3_placeD sa sb sh sr d) σ i τ
set_option maxHeartbeats 4000000 in
set_option maxRecDepth 100000 in
theorem c_X3_place_o {l : Launch} {D : va_G} {q : Nat → Nat} {dA : Nat → ClassId} {tv ta tb : Nat} (hq : sf_inj q KX) {d : Nat} {Rc : sf_St → Int32 → sf_St → Prop} (hRc : ∀ {σ τ : sf_St} {i : Int32}, Rc σ i τ → sf_Mv l yX3_place wsX3_place (sf_rmP d) D vwCl q dA KX (sf_EX q tv ta tb) [.ref (q 27), .ref (q 1), .ref (q 17), .int i] σ τ) {σ τ : sf_St} {u0 : Int32} (h : R_X3_place 18 19 20 21 Rc σ u0 τ) : sf_Mv l yX3_place wsX3_place (sf_rmP (d + 1)) D vwCl q dA KX (sf_EX q tv ta tb) [.ref (q 27), .ref (q 1), .ref (q 17), .int u0] σ τ := by
  refine sf_metv (cc := cX3_place) (maxL := 6) (ret := none) (own := RX3) (by decide +kernel) rfl rfl hq sf_EXk (Nat.le_of_ble_eq_true rfl) ?_
  intro p e s m args below meth c X
  have hT := X.2.2.2.1.2.1
  refine sf_loc (lv' := [(0, .ref (q 27)), (1, .ref (q 1)), (2, .ref (q 17)), (3, .int u0)]) [0, 1, 2, 3] rfl ?_
  refine h (fun t σ u0 u1 u2 => match t with
    | 0 => sf_G p l e (headSpec wsX3_place (sf_rmP (d + 1))).room s m args below meth c (sf_Qv D vwCl q dA KX (sf_EX q tv ta tb) below args s τ) 6 D vwCl q dA KX σ 0 [(0, .ref (q 27)), (1, .ref (q 1)), (2, .ref (q 17)), (3, .int u0)] []
    | 1 => sf_G p l e (headSpec wsX3_place (sf_rmP (d + 1))).room s m args below meth c (sf_Qv D vwCl q dA KX (sf_EX q tv ta tb) below args s τ) 6 D vwCl q dA KX σ 56 [(0, .ref (q 27)), (1, .ref (q 1)), (2, .ref (q 17)), (3, .int u0), (4, .int u1), (5, .int u2)] []
    | _ => True) ?_
  intro t σ u0 u1 u2 h
  match t, h with
  | 0, h =>
      replace h := fe_R_X3_place_0 h
      unfold tr_R_X3_place_0 at h
      show sf_G p l e (headSpec wsX3_place (sf_rmP (d + 1))).room s m args below meth c (sf_Qv D vwCl q dA KX (sf_EX q tv ta tb) below args s τ) 6 D vwCl q dA KX σ 0 [(0, .ref (q 27)), (1, .ref (q 1)), (2, .ref (q 17)), (3, .int u0)] []
      refine sf_iload_n (i := 3) (j := 3) X dX3_place_0 rfl rfl rfl ?_
      refine sf_aload_n (i := 1) (j := 1) X dX3_place_1 rfl rfl rfl ?_
      refine sf_getI (C := RX0) (T := TX0) (N := 10) (ci := 0) (j := 3) X (fun w h => sf_memc (inX0 w h)) rfl rfl (by decide) (X.1.2.2.2.2 _ (sf_memc tw_84)) (fun _ h9 => h9) rfl dX3_place_2 rfl ?_
      refine sf_icmp_lt (tgt := 15) X dX3_place_5 rfl rfl (fun c1 => ?_) (fun c1 => ?_)
      · have h := sf_ift c1 h
        refine sf_aload_n (i := 0) (j := 0) X dX3_place_15 rfl rfl rfl ?_
        refine sf_aload_n (i := 1) (j := 1) X dX3_place_16 rfl rfl rfl ?_
        refine sf_iload_n (i := 3) (j := 3) X dX3_place_17 rfl rfl rfl ?_
        obtain ⟨r4, τ3, hR2, h⟩ := h
        refine sf_callVi (As := [.ref (q 1), .int u0]) (rest := []) (cv := (RX3, TX3, 5)) X rfl rfl (c_X3_lowestRow hq hR2) (cwV 2 X.1.2.2.2.2 (sf_gV tw_469 tw_471 tw_7 tw_44 tw_472) rfl rfl rfl ⟨rfl, hd_X3_lowestRow⟩ ⟨sf_rmPf0 (by decide), sf_rmPl0 (by decide)⟩) rfl rfl (Nat.le_of_ble_eq_true rfl) dX3_place_18 rfl ?_
        refine sf_istore (i := 4) (lv' := [(4, .int r4), (0, .ref (q 27)), (1, .ref (q 1)), (2, .ref (q 17)), (3, .int u0)]) X dX3_place_21 (by decide) rfl rfl ?_
        refine sf_iload (i := 4) (j := 0) X dX3_place_23 rfl rfl ?_
        refine sf_aload_n (i := 0) (j := 1) X dX3_place_25 rfl rfl rfl ?_
        refine sf_getR (C := RX3) (T := TX3) (N := 5) (ci := 3) (j := 0) (k' := 28) X (fun w h => sf_memc (inX3 w h)) rfl rfl (by decide) (X.1.2.2.2.2 _ (sf_memc tw_169)) (fun _ h9 => h9) rfl dX3_place_26 rfl ?_
        refine sf_iload_n (i := 3) (j := 4) X dX3_place_29 rfl rfl rfl ?_
        obtain ⟨b5, h⟩ := h
        refine sf_iald X rfl b5 dX3_place_30 rfl ?_
        refine sf_icmp_le (tgt := 35) X dX3_place_31 rfl rfl (fun c6 => ?_) (fun c6 => ?_)
        · have h := sf_ift c6 h
          refine sf_iload (i := 4) (j := 0) X dX3_place_35 rfl rfl ?_
          refine sf_aload_n (i := 0) (j := 1) X dX3_place_37 rfl rfl rfl ?_
          refine sf_getR (C := RX3) (T := TX3) (N := 5) (ci := 3) (j := 0) (k' := 28) X (fun w h => sf_memc (inX3 w h)) rfl rfl (by decide) (X.1.2.2.2.2 _ (sf_memc tw_169)) (fun _ h9 => h9) rfl dX3_place_38 rfl ?_
          refine sf_iload_n (i := 3) (j := 4) X dX3_place_41 rfl rfl rfl ?_
          obtain ⟨b7, h⟩ := h
          refine sf_iald X rfl b7 dX3_place_42 rfl ?_
          refine sf_icmp_ge (tgt := 53) X dX3_place_43 rfl rfl (fun c8 => ?_) (fun c8 => ?_)
          · have h := sf_ift c8 h
            refine sf_iconst (v := 0) X dX3_place_53 sf_ic_0 rfl ?_
            refine sf_istore (i := 5) (lv' := [(5, .int (0 : Int32)), (4, .int r4), (0, .ref (q 27)), (1, .ref (q 1)), (2, .ref (q 17)), (3, .int u0)]) X dX3_place_54 (by decide) rfl rfl ?_
            refine sf_loc (lv' := [(0, .ref (q 27)), (1, .ref (q 1)), (2, .ref (q 17)), (3, .int u0), (4, .int r4), (5, .int (0 : Int32))]) [2, 3, 4, 5, 1, 0] rfl ?_
            exact h
          · have h := sf_iff c8 h
            refine sf_aload_n (i := 0) (j := 1) X dX3_place_46 rfl rfl rfl ?_
            refine sf_iload_n (i := 3) (j := 4) X dX3_place_47 rfl rfl rfl ?_
            refine sf_iload (i := 4) (j := 0) X dX3_place_48 rfl rfl ?_
            obtain ⟨τ10, hR9, h⟩ := h
            refine sf_callVv (As := [.int u0, .int r4]) (rest := []) (cv := (RX3, TX3, 5)) X rfl rfl (c_X3_lower hq hR9) (cwV 2 X.1.2.2.2.2 (sf_gV tw_479 tw_481 tw_9 tw_44 tw_482) rfl rfl rfl ⟨rfl, hd_X3_lower⟩ ⟨sf_rmPf0 (by decide), sf_rmPl0 (by decide)⟩) rfl rfl (Nat.le_of_ble_eq_true rfl) dX3_place_50 rfl ?_
            refine sf_iconst (v := 0) X dX3_place_53 sf_ic_0 rfl ?_
            refine sf_istore (i := 5) (lv' := [(5, .int (0 : Int32)), (4, .int r4), (0, .ref (q 27)), (1, .ref (q 1)), (2, .ref (q 17)), (3, .int u0)]) X dX3_place_54 (by decide) rfl rfl ?_
            refine sf_loc (lv' := [(0, .ref (q 27)), (1, .ref (q 1)), (2, .ref (q 17)), (3, .int u0), (4, .int r4), (5, .int (0 : Int32))]) [2, 3, 4, 5, 1, 0] rfl ?_
            exact h
        · have h := sf_iff c6 h
          exact sf_retv X h dX3_place_34
      · have h := sf_iff c1 h
        refine sf_aload_n (i := 0) (j := 0) X dX3_place_8 rfl rfl rfl ?_
        refine sf_aload_n (i := 1) (j := 1) X dX3_place_9 rfl rfl rfl ?_
        refine sf_aload_n (i := 2) (j := 2) X dX3_place_10 rfl rfl rfl ?_
        obtain ⟨τ12, hR11, h⟩ := h
        refine sf_callVv (As := [.ref (q 1), .ref (q 17)]) (rest := []) (cv := (RX3, TX3, 5)) X rfl rfl (c_X3_weigh hq hR11) (cwV 2 X.1.2.2.2.2 (sf_gV tw_441 tw_443 tw_5 tw_44 tw_444) rfl rfl rfl ⟨rfl, hd_X3_weigh⟩ ⟨sf_rmPf0 (by decide), sf_rmPl0 (by decide)⟩) rfl rfl (Nat.le_of_ble_eq_true rfl) dX3_place_11 rfl ?_
        exact sf_retv X h dX3_place_14
  | 1, h =>
      replace h := fe_R_X3_place_1 h
      unfold tr_R_X3_place_1 at h
      show sf_G p l e (headSpec wsX3_place (sf_rmP (d + 1))).room s m args below meth c (sf_Qv D vwCl q dA KX (sf_EX q tv ta tb) below args s τ) 6 D vwCl q dA KX σ 56 [(0, .ref (q 27)), (1, .ref (q 1)), (2, .ref (q 17)), (3, .int u0), (4, .int u1), (5, .int u2)] []
      refine sf_iload (i := 5) (j := 5) X dX3_place_56 rfl rfl ?_
      refine sf_aload_n (i := 1) (j := 1) X dX3_place_58 rfl rfl rfl ?_
      refine sf_getI (C := RX0) (T := TX0) (N := 10) (ci := 0) (j := 3) X (fun w h => sf_memc (inX0 w h)) rfl rfl (by decide) (X.1.2.2.2.2 _ (sf_memc tw_84)) (fun _ h9 => h9) rfl dX3_place_59 rfl ?_
      refine sf_icmp_ge (tgt := 137) X dX3_place_62 rfl rfl (fun c13 => ?_) (fun c13 => ?_)
      · have h := sf_ift c13 h
        exact sf_retv X h dX3_place_137
      · have h := sf_iff c13 h
        refine sf_aload_n (i := 0) (j := 0) X dX3_place_65 rfl rfl rfl ?_
        refine sf_getR (C := RX3) (T := TX3) (N := 5) (ci := 3) (j := 2) (k' := 32) X (fun w h => sf_memc (inX3 w h)) rfl rfl (by decide) (X.1.2.2.2.2 _ (sf_memc tw_173)) (fun _ h9 => h9) rfl dX3_place_66 rfl ?_
        refine sf_getR (C := RX2) (T := TX2) (N := 2) (ci := 2) (j := 1) (k' := 34) X (fun w h => sf_memc (inX2 w h)) rfl rfl (by decide) (X.1.2.2.2.2 _ (sf_memc tw_162)) (fun _ h9 => h9) rfl dX3_place_69 rfl ?_
        refine sf_iload (i := 5) (j := 5) X dX3_place_72 rfl rfl ?_
        obtain ⟨b14, h⟩ := h
        refine sf_iald X rfl b14 dX3_place_74 rfl ?_
        refine sf_iconst (v := (-1)) X dX3_place_75 sf_ic_m1 rfl ?_
        refine sf_icmp_ne (tgt := 131) X dX3_place_76 rfl rfl (fun c15 => ?_) (fun c15 => ?_)
        · have h := sf_iff c15 h
          refine sf_iinc (i := 5) (j := 5) (d := 1) (lv' := fun y16 => [(5, .int y16), (0, .ref (q 27)), (1, .ref (q 1)), (2, .ref (q 17)), (3, .int u0), (4, .int u1)]) X dX3_place_131 rfl sf_ic_1 (by decide) (fun _ => rfl) rfl (fun y16 hy16 => ?_)
          have h := h y16 hy16
          refine sf_goto (tgt := 56) X dX3_place_134 rfl ?_
          refine sf_loc (lv' := [(0, .ref (q 27)), (1, .ref (q 1)), (2, .ref (q 17)), (3, .int u0), (4, .int u1), (5, .int y16)]) [1, 2, 3, 4, 5, 0] rfl ?_
          exact h
        · have h := sf_ift c15 h
          refine sf_aload_n (i := 0) (j := 0) X dX3_place_79 rfl rfl rfl ?_
          refine sf_aload_n (i := 1) (j := 1) X dX3_place_80 rfl rfl rfl ?_
          refine sf_iload (i := 5) (j := 5) X dX3_place_81 rfl rfl ?_
          refine sf_iload_n (i := 3) (j := 3) X dX3_place_83 rfl rfl rfl ?_
          obtain ⟨r19, τ18, hR17, h⟩ := h
          refine sf_callVi (As := [.ref (q 1), .int u2, .int u0]) (rest := []) (cv := (RX3, TX3, 5)) X rfl rfl (c_X3_rowOf hq hR17) (cwV 3 X.1.2.2.2.2 (sf_gV tw_473 tw_475 tw_8 tw_44 tw_476) rfl rfl rfl ⟨rfl, hd_X3_rowOf⟩ ⟨sf_rmPf0 (by decide), sf_rmPl0 (by decide)⟩) rfl rfl (Nat.le_of_ble_eq_true rfl) dX3_place_84 rfl ?_
          refine sf_iload (i := 4) (j := 4) X dX3_place_87 rfl rfl ?_
          refine sf_icmp_ne (tgt := 131) X dX3_place_89 rfl rfl (fun c20 => ?_) (fun c20 => ?_)
          · have h := sf_iff c20 h
            refine sf_iinc (i := 5) (j := 5) (d := 1) (lv' := fun y21 => [(5, .int y21), (0, .ref (q 27)), (1, .ref (q 1)), (2, .ref (q 17)), (3, .int u0), (4, .int u1)]) X dX3_place_131 rfl sf_ic_1 (by decide) (fun _ => rfl) rfl (fun y21 hy21 => ?_)
            have h := h y21 hy21
            refine sf_goto (tgt := 56) X dX3_place_134 rfl ?_
            refine sf_loc (lv' := [(0, .ref (q 27)), (1, .ref (q 1)), (2, .ref (q 17)), (3, .int u0), (4, .int u1), (5, .int y21)]) [1, 2, 3, 4, 5, 0] rfl ?_
            exact h
          · have h := sf_ift c20 h
            refine sf_aload_n (i := 0) (j := 0) X dX3_place_92 rfl rfl rfl ?_
            refine sf_getR (C := RX3) (T := TX3) (N := 5) (ci := 3) (j := 2) (k' := 32) X (fun w h => sf_memc (inX3 w h)) rfl rfl (by decide) (X.1.2.2.2.2 _ (sf_memc tw_173)) (fun _ h9 => h9) rfl dX3_place_93 rfl ?_
            refine sf_iload (i := 5) (j := 5) X dX3_place_96 rfl rfl ?_
            refine sf_iload_n (i := 3) (j := 3) X dX3_place_98 rfl rfl rfl ?_
            obtain ⟨τ23, hR22, h⟩ := h
            refine sf_callVv (As := [.int u2, .int u0]) (rest := []) (cv := (RX2, TX2, 2)) X rfl rfl (c_X2_give hq hR22) (cwV 2 X.1.2.2.2.2 (sf_gV tw_483 tw_484 tw_485 tw_45 tw_486) rfl rfl rfl ⟨rfl, hd_X2_give⟩ ⟨sf_rmPf0 (by decide), sf_rmPl0 (by decide)⟩) rfl rfl (Nat.le_of_ble_eq_true rfl) dX3_place_99 rfl ?_
            refine sf_aload_n (i := 0) (j := 0) X dX3_place_102 rfl rfl rfl ?_
            refine sf_aload_n (i := 1) (j := 1) X dX3_place_103 rfl rfl rfl ?_
            refine sf_aload_n (i := 2) (j := 2) X dX3_place_104 rfl rfl rfl ?_
            refine sf_iload_n (i := 3) (j := 3) X dX3_place_105 rfl rfl rfl ?_
            refine sf_iconst (v := 1) X dX3_place_106 sf_ic_1 rfl ?_
            refine sf_iadd X dX3_place_107 rfl ?_
            obtain ⟨τ25, hR24, h⟩ := h
            refine sf_callVv (As := [.ref (q 1), .ref (q 17), .int (u0 + (1 : Int32))]) (rest := []) (cv := (RX3, TX3, 5)) X rfl rfl (hRc hR24) (cwV 3 X.1.2.2.2.2 (sf_gV tw_437 tw_439 tw_4 tw_44 tw_440) rfl rfl rfl ⟨rfl, hd_X3_place⟩ ⟨sf_rmPf, sf_rmPl⟩) rfl rfl (Nat.le_of_ble_eq_true rfl) dX3_place_108 rfl ?_
            refine sf_aload_n (i := 0) (j := 0) X dX3_place_111 rfl rfl rfl ?_
            refine sf_getR (C := RX3) (T := TX3) (N := 5) (ci := 3) (j := 2) (k' := 32) X (fun w h => sf_memc (inX3 w h)) rfl rfl (by decide) (X.1.2.2.2.2 _ (sf_memc tw_173)) (fun _ h9 => h9) rfl dX3_place_112 rfl ?_
            refine sf_iload (i := 5) (j := 5) X dX3_place_115 rfl rfl ?_
            refine sf_iload_n (i := 3) (j := 3) X dX3_place_117 rfl rfl rfl ?_
            obtain ⟨τ27, hR26, h⟩ := h
            refine sf_callVv (As := [.int u2, .int u0]) (rest := []) (cv := (RX2, TX2, 2)) X rfl rfl (c_X2_takeBack hq hR26) (cwV 2 X.1.2.2.2.2 (sf_gV tw_487 tw_488 tw_489 tw_45 tw_490) rfl rfl rfl ⟨rfl, hd_X2_takeBack⟩ ⟨sf_rmPf0 (by decide), sf_rmPl0 (by decide)⟩) rfl rfl (Nat.le_of_ble_eq_true rfl) dX3_place_118 rfl ?_
            refine sf_aload_n (i := 1) (j := 1) X dX3_place_121 rfl rfl rfl ?_
            refine sf_iload (i := 5) (j := 5) X dX3_place_122 rfl rfl ?_
            obtain ⟨r30, τ29, hR28, h⟩ := h
            refine sf_callVi (As := [.int u2]) (rest := []) (cv := (RX0, TX0, 10)) X rfl rfl (c_X0_isAlone hq hR28) (cwV 1 X.1.2.2.2.2 (sf_gV tw_491 tw_492 tw_493 tw_42 tw_494) rfl rfl rfl ⟨rfl, hd_X0_isAlone⟩ ⟨sf_rmPf0 (by decide), sf_rmPl0 (by decide)⟩) rfl rfl (Nat.le_of_ble_eq_true rfl) dX3_place_124 rfl ?_
            refine sf_if_eq (tgt := 131) X dX3_place_127 rfl rfl (fun c31 => ?_) (fun c31 => ?_)
            · have h := sf_ift c31 h
              refine sf_iinc (i := 5) (j := 5) (d := 1) (lv' := fun y32 => [(5, .int y32), (0, .ref (q 27)), (1, .ref (q 1)), (2, .ref (q 17)), (3, .int u0), (4, .int u1)]) X dX3_place_131 rfl sf_ic_1 (by decide) (fun _ => rfl) rfl (fun y32 hy32 => ?_)
              have h := h y32 hy32
              refine sf_goto (tgt := 56) X dX3_place_134 rfl ?_
              refine sf_loc (lv' := [(0, .ref (q 27)), (1, .ref (q 1)), (2, .ref (q 17)), (3, .int u0), (4, .int u1), (5, .int y32)]) [1, 2, 3, 4, 5, 0] rfl ?_
              exact h
            · have h := sf_iff c31 h
              exact sf_retv X h dX3_place_130
  | (_ + 2), _ => exact trivial
theorem c_X3_place {l : Launch} {D : va_G} {q : Nat → Nat} {dA : Nat → ClassId} {tv ta tb : Nat} (hq : sf_inj q KX) : ∀ (d : Nat) {σ τ : sf_St} {i : Int32}, R_X3_placeD 18 19 20 21 d σ i τ → sf_Mv l yX3_place wsX3_place (sf_rmP d) D vwCl q dA KX (sf_EX q tv ta tb) [.ref (q 27), .ref (q 1), .ref (q 17), .int i] σ τ := by
  intro d
  induction d with
  | zero => intro σ τ i h; exact h.elim
  | succ d ih => intro σ τ i h; exact c_X3_place_o hq (fun h => ih h) h
def R_X3_leastSenses (sa sb sh sr : Nat) (σ : sf_St) (r : Int32) (τ : sf_St) : Prop :=
  ∀ τ1 : sf_St, τ1 = sf_up σ 27 4 (2147483647 : Int32) → (∃ τ3 : sf_St, R_X2_removeAll τ1 τ3 ∧ (∃ τ5 : sf_St, R_X3_placeD sa sb sh sr 8 τ3 (0 : Int32) τ5 ∧ (r = (τ5 27 4) ∧ τ = τ5)))
set_option maxHeartbeats 4000000 in
set_option maxRecDepth 100000 in
theorem c_X3_leastSenses {l : Launch} {D : va_G} {q : Nat → Nat} {dA : Nat → ClassId} {tv ta tb : Nat} (hq : sf_inj q KX) {σ τ : sf_St} {r : Int32} (h : R_X3_leastSenses 18 19 20 21 σ  r τ) : sf_Mi l yX3_leastSenses wsX3_leastSenses ({ frames := 13, cells := 0, slots := 0, locals := 327 }) D vwCl q dA KX (sf_EX q tv ta tb) [.ref (q 27), .ref (q 1), .ref (q 17)] σ r τ := by
  refine sf_meti (cc := cX3_leastSenses) (maxL := 3) (ret := (some .int)) (own := RX3) (by decide +kernel) rfl rfl hq sf_EXk (Nat.le_of_ble_eq_true rfl) ?_
  intro p e s m args below meth c X
  have hT := X.2.2.2.1.2.1
  unfold R_X3_leastSenses at h
  refine sf_loc (lv' := [(0, .ref (q 27)), (1, .ref (q 1)), (2, .ref (q 17))]) [0, 1, 2] rfl ?_
  refine sf_aload_n (i := 0) (j := 0) X dX3_leastSenses_0 rfl rfl rfl ?_
  refine sf_ldc (v := 2147483647) X (X.1.2.2.2.2 _ (sf_memc tw_168)) dX3_leastSenses_1 rfl ?_
  refine sf_putI (C := RX3) (T := TX3) (N := 5) (ci := 3) (j := 4) (ty := .int) X (fun w h => sf_memc (inX3 w h)) rfl rfl (by decide) (X.1.2.2.2.2 _ (sf_memc tw_175)) (fun _ h9 => h9) tyX3 tyX3_ok nmX3 rfl (by decide +kernel) rfl rfl rfl dX3_leastSenses_3 rfl (fun τ1 hτ1 => ?_)
  have h := h τ1 hτ1
  refine sf_aload_n (i := 0) (j := 0) X dX3_leastSenses_6 rfl rfl rfl ?_
  refine sf_getR (C := RX3) (T := TX3) (N := 5) (ci := 3) (j := 2) (k' := 32) X (fun w h => sf_memc (inX3 w h)) rfl rfl (by decide) (X.1.2.2.2.2 _ (sf_memc tw_173)) (fun _ h9 => h9) rfl dX3_leastSenses_7 rfl ?_
  obtain ⟨τ3, hR2, h⟩ := h
  refine sf_callVv (As := []) (rest := []) (cv := (RX2, TX2, 2)) X rfl rfl (c_X2_removeAll hq hR2) (cwV 0 X.1.2.2.2.2 (sf_gV tw_432 tw_433 tw_434 tw_45 tw_435) rfl rfl rfl ⟨rfl, hd_X2_removeAll⟩ ⟨Nat.le_of_ble_eq_true rfl, Nat.le_of_ble_eq_true rfl⟩) rfl rfl (Nat.le_of_ble_eq_true rfl) dX3_leastSenses_10 rfl ?_
  refine sf_aload_n (i := 0) (j := 0) X dX3_leastSenses_13 rfl rfl rfl ?_
  refine sf_aload_n (i := 1) (j := 1) X dX3_leastSenses_14 rfl rfl rfl ?_
  refine sf_aload_n (i := 2) (j := 2) X dX3_leastSenses_15 rfl rfl rfl ?_
  refine sf_iconst (v := 0) X dX3_leastSenses_16 sf_ic_0 rfl ?_
  obtain ⟨τ5, hR4, h⟩ := h
  refine sf_callVv (As := [.ref (q 1), .ref (q 17), .int (0 : Int32)]) (rest := []) (cv := (RX3, TX3, 5)) X rfl rfl (c_X3_place hq 8 hR4) (cwV 3 X.1.2.2.2.2 (sf_gV tw_437 tw_439 tw_4 tw_44 tw_440) rfl rfl rfl ⟨rfl, hd_X3_place⟩ ⟨Nat.le_of_ble_eq_true rfl, Nat.le_of_ble_eq_true rfl⟩) rfl rfl (Nat.le_of_ble_eq_true rfl) dX3_leastSenses_17 rfl ?_
  refine sf_aload_n (i := 0) (j := 0) X dX3_leastSenses_20 rfl rfl rfl ?_
  refine sf_getI (C := RX3) (T := TX3) (N := 5) (ci := 3) (j := 4) X (fun w h => sf_memc (inX3 w h)) rfl rfl (by decide) (X.1.2.2.2.2 _ (sf_memc tw_175)) (fun _ h9 => h9) rfl dX3_leastSenses_21 rfl ?_
  exact sf_reti X h dX3_leastSenses_24
def R_X1_take (fo fr ar1 : Nat) (σ : sf_St) (u0 u1 : Int32) (τ : sf_St) : Prop :=
  ∀ τ1 : sf_St, τ1 = sf_upc σ fr (va_cpy (σ ar1) (σ fr) (sf_ix (0 : Int32)) (sf_ix (0 : Int32)) (sf_ix (7 : Int32))) → (∀ τ2 : sf_St, τ2 = sf_up τ1 fo 0 u0 → (∀ τ3 : sf_St, τ3 = sf_up τ2 fo 2 u1 → (τ = τ3)))
set_option maxHeartbeats 4000000 in
set_option maxRecDepth 100000 in
theorem c_X1_take {l : Launch} {D : va_G} {q : Nat → Nat} {dA : Nat → ClassId} {tv ta tb : Nat} (hq : sf_inj q KX) {σ τ : sf_St} {u0 u1 : Int32} (h : R_X1_take 36 37 28 σ u0 u1 τ) : sf_Mv l yX1_take wsX1_take ({ frames := 1, cells := 0, slots := 0, locals := 40 }) D vwCl q dA KX (sf_EX q tv ta tb) [.ref (q 36), .ref (q 28), .int u0, .int u1] σ τ := by
  refine sf_metv (cc := cX1_take) (maxL := 4) (ret := none) (own := RX1) (by decide +kernel) rfl rfl hq sf_EXk (Nat.le_of_ble_eq_true rfl) ?_
  intro p e s m args below meth c X
  have hT := X.2.2.2.1.2.1
  unfold R_X1_take at h
  refine sf_loc (lv' := [(0, .ref (q 36)), (1, .ref (q 28)), (2, .int u0), (3, .int u1)]) [0, 1, 2, 3] rfl ?_
  refine sf_aload_n (i := 1) (j := 1) X dX1_take_0 rfl rfl rfl ?_
  refine sf_iconst (v := 0) X dX1_take_1 sf_ic_0 rfl ?_
  refine sf_aload_n (i := 0) (j := 0) X dX1_take_2 rfl rfl rfl ?_
  refine sf_getR (C := RX1) (T := TX1) (N := 3) (ci := 1) (j := 1) (k' := 37) X (fun w h => sf_memc (inX1 w h)) rfl rfl (by decide) (X.1.2.2.2.2 _ (sf_memc tw_195)) (fun _ h9 => h9) rfl dX1_take_3 rfl ?_
  refine sf_iconst (v := 0) X dX1_take_6 sf_ic_0 rfl ?_
  refine sf_bipush (v := 7) X dX1_take_7 sf_bc_7 rfl ?_
  refine sf_copy (t := 0) (n0 := 7) (n1 := 7) (ty := .int) X (X.1.2.2.2.2 _ (sf_memc tw_500)) (X.1.2.2.2.2 _ (sf_memc tw_468)) (X.1.2.2.2.2 _ (sf_memc tw_467)) (X.1.2.2.2.2 _ (sf_memc tw_51)) rfl rfl (by decide) rfl rfl (by decide) (by decide) (by decide) (by decide) (by decide) (fun _ _ => rfl) (Nat.le_of_ble_eq_true rfl) (Nat.le_of_ble_eq_true rfl) dX1_take_9 rfl (fun τ1 hτ1 => ?_)
  have h := h τ1 hτ1
  refine sf_aload_n (i := 0) (j := 0) X dX1_take_12 rfl rfl rfl ?_
  refine sf_iload_n (i := 2) (j := 2) X dX1_take_13 rfl rfl rfl ?_
  refine sf_putI (C := RX1) (T := TX1) (N := 3) (ci := 1) (j := 0) (ty := .int) X (fun w h => sf_memc (inX1 w h)) rfl rfl (by decide) (X.1.2.2.2.2 _ (sf_memc tw_193)) (fun _ h9 => h9) tyX1 tyX1_ok nmX1 rfl (by decide +kernel) rfl rfl rfl dX1_take_14 rfl (fun τ2 hτ2 => ?_)
  have h := h τ2 hτ2
  refine sf_aload_n (i := 0) (j := 0) X dX1_take_17 rfl rfl rfl ?_
  refine sf_iload_n (i := 3) (j := 3) X dX1_take_18 rfl rfl rfl ?_
  refine sf_putI (C := RX1) (T := TX1) (N := 3) (ci := 1) (j := 2) (ty := .int) X (fun w h => sf_memc (inX1 w h)) rfl rfl (by decide) (X.1.2.2.2.2 _ (sf_memc tw_197)) (fun _ h9 => h9) tyX1 tyX1_ok nmX1 rfl (by decide +kernel) rfl rfl rfl dX1_take_19 rfl (fun τ3 hτ3 => ?_)
  have h := h τ3 hτ3
  exact sf_retv X h dX1_take_22
set_option maxHeartbeats 4000000 in
set_option maxRecDepth 100000 in
theorem c_X2_copyFrom_2 {l : Launch} {D : va_G} {q : Nat → Nat} {dA : Nat → ClassId} {tv ta tb : Nat} (hq : sf_inj q KX) {σ τ : sf_St} (h : R_X2_copyFrom 41 42 30 31 σ  τ) : sf_Mv l yX2_copyFrom wsX2_copyFrom ({ frames := 1, cells := 0, slots := 0, locals := 40 }) D vwCl q dA KX (sf_EX q tv ta tb) [.ref (q 40), .ref (q 29)] σ τ := by
  refine sf_metv (cc := cX2_copyFrom) (maxL := 2) (ret := none) (own := RX2) (by decide +kernel) rfl rfl hq sf_EXk (Nat.le_of_ble_eq_true rfl) ?_
  intro p e s m args below meth c X
  have hT := X.2.2.2.1.2.1
  unfold R_X2_copyFrom at h
  refine sf_loc (lv' := [(0, .ref (q 40)), (1, .ref (q 29))]) [0, 1] rfl ?_
  refine sf_aload_n (i := 1) (j := 1) X dX2_copyFrom_0 rfl rfl rfl ?_
  refine sf_getR (C := RX2) (T := TX2) (N := 2) (ci := 2) (j := 0) (k' := 30) X (fun w h => sf_memc (inX2 w h)) rfl rfl (by decide) (X.1.2.2.2.2 _ (sf_memc tw_158)) (fun _ h9 => h9) rfl dX2_copyFrom_1 rfl ?_
  refine sf_iconst (v := 0) X dX2_copyFrom_4 sf_ic_0 rfl ?_
  refine sf_aload_n (i := 0) (j := 0) X dX2_copyFrom_5 rfl rfl rfl ?_
  refine sf_getR (C := RX2) (T := TX2) (N := 2) (ci := 2) (j := 0) (k' := 41) X (fun w h => sf_memc (inX2 w h)) rfl rfl (by decide) (X.1.2.2.2.2 _ (sf_memc tw_158)) (fun _ h9 => h9) rfl dX2_copyFrom_6 rfl ?_
  refine sf_iconst (v := 0) X dX2_copyFrom_9 sf_ic_0 rfl ?_
  refine sf_bipush (v := 7) X dX2_copyFrom_10 sf_bc_7 rfl ?_
  refine sf_copy (t := 0) (n0 := 7) (n1 := 7) (ty := .int) X (X.1.2.2.2.2 _ (sf_memc tw_466)) (X.1.2.2.2.2 _ (sf_memc tw_468)) (X.1.2.2.2.2 _ (sf_memc tw_467)) (X.1.2.2.2.2 _ (sf_memc tw_51)) rfl rfl (by decide) rfl rfl (by decide) (by decide) (by decide) (by decide) (by decide) (fun _ _ => rfl) (Nat.le_of_ble_eq_true rfl) (Nat.le_of_ble_eq_true rfl) dX2_copyFrom_12 rfl (fun τ1 hτ1 => ?_)
  have h := h τ1 hτ1
  refine sf_aload_n (i := 1) (j := 1) X dX2_copyFrom_15 rfl rfl rfl ?_
  refine sf_getR (C := RX2) (T := TX2) (N := 2) (ci := 2) (j := 1) (k' := 31) X (fun w h => sf_memc (inX2 w h)) rfl rfl (by decide) (X.1.2.2.2.2 _ (sf_memc tw_161)) (fun _ h9 => h9) rfl dX2_copyFrom_16 rfl ?_
  refine sf_iconst (v := 0) X dX2_copyFrom_19 sf_ic_0 rfl ?_
  refine sf_aload_n (i := 0) (j := 0) X dX2_copyFrom_20 rfl rfl rfl ?_
  refine sf_getR (C := RX2) (T := TX2) (N := 2) (ci := 2) (j := 1) (k' := 42) X (fun w h => sf_memc (inX2 w h)) rfl rfl (by decide) (X.1.2.2.2.2 _ (sf_memc tw_161)) (fun _ h9 => h9) rfl dX2_copyFrom_21 rfl ?_
  refine sf_iconst (v := 0) X dX2_copyFrom_24 sf_ic_0 rfl ?_
  refine sf_bipush (v := 7) X dX2_copyFrom_25 sf_bc_7 rfl ?_
  refine sf_copy (t := 0) (n0 := 7) (n1 := 7) (ty := .int) X (X.1.2.2.2.2 _ (sf_memc tw_466)) (X.1.2.2.2.2 _ (sf_memc tw_468)) (X.1.2.2.2.2 _ (sf_memc tw_467)) (X.1.2.2.2.2 _ (sf_memc tw_51)) rfl rfl (by decide) rfl rfl (by decide) (by decide) (by decide) (by decide) (by decide) (fun _ _ => rfl) (Nat.le_of_ble_eq_true rfl) (Nat.le_of_ble_eq_true rfl) dX2_copyFrom_27 rfl (fun τ2 hτ2 => ?_)
  have h := h τ2 hτ2
  exact sf_retv X h dX2_copyFrom_30
def R_X4_copyFrom (σ : sf_St) (τ : sf_St) : Prop :=
  ∀ τ1 : sf_St, τ1 = sf_upc σ 23 (va_cpy (σ 18) (σ 23) (sf_ix (0 : Int32)) (sf_ix (0 : Int32)) (sf_ix (7 : Int32))) → (∀ τ2 : sf_St, τ2 = sf_upc τ1 24 (va_cpy (τ1 19) (τ1 24) (sf_ix (0 : Int32)) (sf_ix (0 : Int32)) (sf_ix (9 : Int32))) → ((∀ i, i < sf_ix (9 : Int32) → fits .boolean (.int (τ2 20 (sf_ix (0 : Int32) + i))) = true) ∧ (∀ τ4 : sf_St, τ4 = sf_upc τ2 25 (va_cpy (τ2 20) (τ2 25) (sf_ix (0 : Int32)) (sf_ix (0 : Int32)) (sf_ix (9 : Int32))) → (τ = τ4))))
set_option maxHeartbeats 4000000 in
set_option maxRecDepth 100000 in
theorem c_X4_copyFrom {l : Launch} {D : va_G} {q : Nat → Nat} {dA : Nat → ClassId} {tv ta tb : Nat} (hq : sf_inj q KX) {σ τ : sf_St} (h : R_X4_copyFrom σ  τ) : sf_Mv l yX4_copyFrom wsX4_copyFrom ({ frames := 1, cells := 0, slots := 0, locals := 40 }) D vwCl q dA KX (sf_EX q tv ta tb) [.ref (q 22), .ref (q 17)] σ τ := by
  refine sf_metv (cc := cX4_copyFrom) (maxL := 2) (ret := none) (own := RX4) (by decide +kernel) rfl rfl hq sf_EXk (Nat.le_of_ble_eq_true rfl) ?_
  intro p e s m args below meth c X
  have hT := X.2.2.2.1.2.1
  unfold R_X4_copyFrom at h
  refine sf_loc (lv' := [(0, .ref (q 22)), (1, .ref (q 17))]) [0, 1] rfl ?_
  refine sf_aload_n (i := 1) (j := 1) X dX4_copyFrom_0 rfl rfl rfl ?_
  refine sf_getR (C := RX4) (T := TX4) (N := 4) (ci := 4) (j := 0) (k' := 18) X (fun w h => sf_memc (inX4 w h)) rfl rfl (by decide) (X.1.2.2.2.2 _ (sf_memc tw_129)) (fun _ h9 => h9) rfl dX4_copyFrom_1 rfl ?_
  refine sf_iconst (v := 0) X dX4_copyFrom_4 sf_ic_0 rfl ?_
  refine sf_aload_n (i := 0) (j := 0) X dX4_copyFrom_5 rfl rfl rfl ?_
  refine sf_getR (C := RX4) (T := TX4) (N := 4) (ci := 4) (j := 0) (k' := 23) X (fun w h => sf_memc (inX4 w h)) rfl rfl (by decide) (X.1.2.2.2.2 _ (sf_memc tw_129)) (fun _ h9 => h9) rfl dX4_copyFrom_6 rfl ?_
  refine sf_iconst (v := 0) X dX4_copyFrom_9 sf_ic_0 rfl ?_
  refine sf_bipush (v := 7) X dX4_copyFrom_10 sf_bc_7 rfl ?_
  refine sf_copy (t := 0) (n0 := 7) (n1 := 7) (ty := .int) X (X.1.2.2.2.2 _ (sf_memc tw_506)) (X.1.2.2.2.2 _ (sf_memc tw_468)) (X.1.2.2.2.2 _ (sf_memc tw_467)) (X.1.2.2.2.2 _ (sf_memc tw_51)) rfl rfl (by decide) rfl rfl (by decide) (by decide) (by decide) (by decide) (by decide) (fun _ _ => rfl) (Nat.le_of_ble_eq_true rfl) (Nat.le_of_ble_eq_true rfl) dX4_copyFrom_12 rfl (fun τ1 hτ1 => ?_)
  have h := h τ1 hτ1
  refine sf_aload_n (i := 1) (j := 1) X dX4_copyFrom_15 rfl rfl rfl ?_
  refine sf_getR (C := RX4) (T := TX4) (N := 4) (ci := 4) (j := 1) (k' := 19) X (fun w h => sf_memc (inX4 w h)) rfl rfl (by decide) (X.1.2.2.2.2 _ (sf_memc tw_131)) (fun _ h9 => h9) rfl dX4_copyFrom_16 rfl ?_
  refine sf_iconst (v := 0) X dX4_copyFrom_19 sf_ic_0 rfl ?_
  refine sf_aload_n (i := 0) (j := 0) X dX4_copyFrom_20 rfl rfl rfl ?_
  refine sf_getR (C := RX4) (T := TX4) (N := 4) (ci := 4) (j := 1) (k' := 24) X (fun w h => sf_memc (inX4 w h)) rfl rfl (by decide) (X.1.2.2.2.2 _ (sf_memc tw_131)) (fun _ h9 => h9) rfl dX4_copyFrom_21 rfl ?_
  refine sf_iconst (v := 0) X dX4_copyFrom_24 sf_ic_0 rfl ?_
  refine sf_bipush (v := 9) X dX4_copyFrom_25 sf_bc_9 rfl ?_
  refine sf_copy (t := 0) (n0 := 9) (n1 := 9) (ty := .int) X (X.1.2.2.2.2 _ (sf_memc tw_506)) (X.1.2.2.2.2 _ (sf_memc tw_468)) (X.1.2.2.2.2 _ (sf_memc tw_467)) (X.1.2.2.2.2 _ (sf_memc tw_51)) rfl rfl (by decide) rfl rfl (by decide) (by decide) (by decide) (by decide) (by decide) (fun _ _ => rfl) (Nat.le_of_ble_eq_true rfl) (Nat.le_of_ble_eq_true rfl) dX4_copyFrom_27 rfl (fun τ2 hτ2 => ?_)
  have h := h τ2 hτ2
  refine sf_aload_n (i := 1) (j := 1) X dX4_copyFrom_30 rfl rfl rfl ?_
  refine sf_getR (C := RX4) (T := TX4) (N := 4) (ci := 4) (j := 2) (k' := 20) X (fun w h => sf_memc (inX4 w h)) rfl rfl (by decide) (X.1.2.2.2.2 _ (sf_memc tw_133)) (fun _ h9 => h9) rfl dX4_copyFrom_31 rfl ?_
  refine sf_iconst (v := 0) X dX4_copyFrom_34 sf_ic_0 rfl ?_
  refine sf_aload_n (i := 0) (j := 0) X dX4_copyFrom_35 rfl rfl rfl ?_
  refine sf_getR (C := RX4) (T := TX4) (N := 4) (ci := 4) (j := 2) (k' := 25) X (fun w h => sf_memc (inX4 w h)) rfl rfl (by decide) (X.1.2.2.2.2 _ (sf_memc tw_133)) (fun _ h9 => h9) rfl dX4_copyFrom_36 rfl ?_
  refine sf_iconst (v := 0) X dX4_copyFrom_39 sf_ic_0 rfl ?_
  refine sf_bipush (v := 9) X dX4_copyFrom_40 sf_bc_9 rfl ?_
  obtain ⟨b3, h⟩ := h
  refine sf_copy (t := 1) (n0 := 9) (n1 := 9) (ty := .boolean) X (X.1.2.2.2.2 _ (sf_memc tw_506)) (X.1.2.2.2.2 _ (sf_memc tw_468)) (X.1.2.2.2.2 _ (sf_memc tw_467)) (X.1.2.2.2.2 _ (sf_memc tw_51)) rfl rfl (by decide) rfl rfl (by decide) (by decide) (by decide) (by decide) (by decide) b3 (Nat.le_of_ble_eq_true rfl) (Nat.le_of_ble_eq_true rfl) dX4_copyFrom_42 rfl (fun τ4 hτ4 => ?_)
  have h := h τ4 hτ4
  exact sf_retv X h dX4_copyFrom_45
def tr_R_X4_mirror_0 (Pr : Nat → sf_St → Int32 → Prop) (τ : sf_St) (σ : sf_St) (u0 : Int32) : Prop :=
  Pr 1 σ (0 : Int32)
def tr_R_X4_mirror_1 (Pr : Nat → sf_St → Int32 → Prop) (τ : sf_St) (σ : sf_St) (u0 : Int32) : Prop :=
  if (7 : Int32) ≤ u0 then (τ = σ) else (vp_in u0 7 ∧ (vp_in u0 7 ∧ (∀ τ4 : sf_St, τ4 = sf_up σ 23 (sf_ix u0) (-(σ 23 (sf_ix u0))) → (∀ y5 : Int32, y5 = u0 + (1 : Int32) → (Pr 1 τ4 y5)))))
def fn_R_X4_mirror (Pr : Nat → sf_St → Int32 → Prop) (τ : sf_St) (t : Nat) (σ : sf_St) (u0 : Int32) : Prop := match t with
  | 0 => tr_R_X4_mirror_0 Pr τ σ u0
  | 1 => tr_R_X4_mirror_1 Pr τ σ u0
  | _ => False
def Rn_R_X4_mirror (t : Nat) (σ : sf_St) (u0 : Int32) (τ : sf_St) : Prop := ∀ Pr : Nat → sf_St → Int32 → Prop, (∀ (t : Nat) (σ : sf_St) (u0 : Int32), fn_R_X4_mirror Pr τ t σ u0 → Pr t σ u0) → Pr t σ u0
def R_X4_mirror (σ : sf_St) (τ : sf_St) : Prop := Rn_R_X4_mirror 0 σ  0 τ
theorem fe_R_X4_mirror_0 {Pr : Nat → sf_St → Int32 → Prop} {τ σ : sf_St} {u0 : Int32} (h : fn_R_X4_mirror Pr τ 0 σ u0) : tr_R_X4_mirror_0 Pr τ σ u0 := h
theorem mo_R_X4_mirror_0 {Pr Pr' : Nat → sf_St → Int32 → Prop} {τ σ : sf_St} {u0 : Int32} (hP : ∀ (t : Nat) (σ : sf_St) (u0 : Int32), Pr t σ u0 → Pr' t σ u0) (h : tr_R_X4_mirror_0 Pr τ σ u0) : tr_R_X4_mirror_0 Pr' τ σ u0 := by
  unfold tr_R_X4_mirror_0 at h ⊢
  exact hP _ _ _ h
theorem ru_R_X4_mirror_0 {τ σ : sf_St} {u0 : Int32} (h : tr_R_X4_mirror_0 (fun t σ u0 => Rn_R_X4_mirror t σ u0 τ) τ σ u0) : Rn_R_X4_mirror 0 σ u0 τ := fun Pr hP => hP 0 σ u0 (mo_R_X4_mirror_0 (fun _ _ _ h => h Pr hP) h)
theorem fe_R_X4_mirror_1 {Pr : Nat → sf_St → Int32 → Prop} {τ σ : sf_St} {u0 : Int32} (h : fn_R_X4_mirror Pr τ 1 σ u0) : tr_R_X4_mirror_1 Pr τ σ u0 := h
theorem mo_R_X4_mirror_1 {Pr Pr' : Nat → sf_St → Int32 → Prop} {τ σ : sf_St} {u0 : Int32} (hP : ∀ (t : Nat) (σ : sf_St) (u0 : Int32), Pr t σ u0 → Pr' t σ u0) (h : tr_R_X4_mirror_1 Pr τ σ u0) : tr_R_X4_mirror_1 Pr' τ σ u0 := by
  unfold tr_R_X4_mirror_1 at h ⊢
  refine sf_mif (fun h => ?_) (fun h => ?_) h
  · exact h
  · refine And.imp id (fun h => ?_) h
    refine And.imp id (fun h => ?_) h
    intro τ4 hτ4
    have h := h τ4 hτ4
    intro y5 hy5
    have h := h y5 hy5
    exact hP _ _ _ h
theorem ru_R_X4_mirror_1 {τ σ : sf_St} {u0 : Int32} (h : tr_R_X4_mirror_1 (fun t σ u0 => Rn_R_X4_mirror t σ u0 τ) τ σ u0) : Rn_R_X4_mirror 1 σ u0 τ := fun Pr hP => hP 1 σ u0 (mo_R_X4_mirror_1 (fun _ _ _ h => h Pr hP) h)
set_option maxHeartbeats 4000000 in
set_option maxRecDepth 100000 in
theorem c_X4_mirror {l : Launch} {D : va_G} {q : Nat → Nat} {dA : Nat → ClassId} {tv ta tb : Nat} (hq : sf_inj q KX) {σ τ : sf_St} (h : R_X4_mirror σ  τ) : sf_Mv l yX4_mirror wsX4_mirror ({ frames := 0, cells := 0, slots := 0, locals := 0 }) D vwCl q dA KX (sf_EX q tv ta tb) [.ref (q 22)] σ τ := by
  refine sf_metv (cc := cX4_mirror) (maxL := 2) (ret := none) (own := RX4) (by decide +kernel) rfl rfl hq sf_EXk (Nat.le_of_ble_eq_true rfl) ?_
  intro p e s m args below meth c X
  have hT := X.2.2.2.1.2.1
  refine sf_loc (lv' := [(0, .ref (q 22))]) [0] rfl ?_
  refine h (fun t σ u0 => match t with
    | 0 => sf_G p l e (headSpec wsX4_mirror ({ frames := 0, cells := 0, slots := 0, locals := 0 })).room s m args below meth c (sf_Qv D vwCl q dA KX (sf_EX q tv ta tb) below args s τ) 2 D vwCl q dA KX σ 0 [(0, .ref (q 22))] []
    | 1 => sf_G p l e (headSpec wsX4_mirror ({ frames := 0, cells := 0, slots := 0, locals := 0 })).room s m args below meth c (sf_Qv D vwCl q dA KX (sf_EX q tv ta tb) below args s τ) 2 D vwCl q dA KX σ 2 [(0, .ref (q 22)), (1, .int u0)] []
    | _ => True) ?_
  intro t σ u0 h
  match t, h with
  | 0, h =>
      replace h := fe_R_X4_mirror_0 h
      unfold tr_R_X4_mirror_0 at h
      show sf_G p l e (headSpec wsX4_mirror ({ frames := 0, cells := 0, slots := 0, locals := 0 })).room s m args below meth c (sf_Qv D vwCl q dA KX (sf_EX q tv ta tb) below args s τ) 2 D vwCl q dA KX σ 0 [(0, .ref (q 22))] []
      refine sf_iconst (v := 0) X dX4_mirror_0 sf_ic_0 rfl ?_
      refine sf_istore_n (i := 1) (lv' := [(1, .int (0 : Int32)), (0, .ref (q 22))]) X dX4_mirror_1 rfl (by decide) rfl rfl ?_
      refine sf_loc (lv' := [(0, .ref (q 22)), (1, .int (0 : Int32))]) [1, 0] rfl ?_
      exact h
  | 1, h =>
      replace h := fe_R_X4_mirror_1 h
      unfold tr_R_X4_mirror_1 at h
      show sf_G p l e (headSpec wsX4_mirror ({ frames := 0, cells := 0, slots := 0, locals := 0 })).room s m args below meth c (sf_Qv D vwCl q dA KX (sf_EX q tv ta tb) below args s τ) 2 D vwCl q dA KX σ 2 [(0, .ref (q 22)), (1, .int u0)] []
      refine sf_iload_n (i := 1) (j := 1) X dX4_mirror_2 rfl rfl rfl ?_
      refine sf_bipush (v := 7) X dX4_mirror_3 sf_bc_7 rfl ?_
      refine sf_icmp_ge (tgt := 27) X dX4_mirror_5 rfl rfl (fun c1 => ?_) (fun c1 => ?_)
      · have h := sf_ift c1 h
        exact sf_retv X h dX4_mirror_27
      · have h := sf_iff c1 h
        refine sf_aload_n (i := 0) (j := 0) X dX4_mirror_8 rfl rfl rfl ?_
        refine sf_getR (C := RX4) (T := TX4) (N := 4) (ci := 4) (j := 0) (k' := 23) X (fun w h => sf_memc (inX4 w h)) rfl rfl (by decide) (X.1.2.2.2.2 _ (sf_memc tw_129)) (fun _ h9 => h9) rfl dX4_mirror_9 rfl ?_
        refine sf_iload_n (i := 1) (j := 1) X dX4_mirror_12 rfl rfl rfl ?_
        refine sf_aload_n (i := 0) (j := 0) X dX4_mirror_13 rfl rfl rfl ?_
        refine sf_getR (C := RX4) (T := TX4) (N := 4) (ci := 4) (j := 0) (k' := 23) X (fun w h => sf_memc (inX4 w h)) rfl rfl (by decide) (X.1.2.2.2.2 _ (sf_memc tw_129)) (fun _ h9 => h9) rfl dX4_mirror_14 rfl ?_
        refine sf_iload_n (i := 1) (j := 1) X dX4_mirror_17 rfl rfl rfl ?_
        obtain ⟨b2, h⟩ := h
        refine sf_iald X rfl b2 dX4_mirror_18 rfl ?_
        refine sf_ineg X dX4_mirror_19 rfl ?_
        obtain ⟨b3, h⟩ := h
        refine sf_iast X rfl b3 dX4_mirror_20 rfl (fun τ4 hτ4 => ?_)
        have h := h τ4 hτ4
        refine sf_iinc (i := 1) (j := 1) (d := 1) (lv' := fun y5 => [(1, .int y5), (0, .ref (q 22))]) X dX4_mirror_21 rfl sf_ic_1 (by decide) (fun _ => rfl) rfl (fun y5 hy5 => ?_)
        have h := h y5 hy5
        refine sf_goto (tgt := 2) X dX4_mirror_24 rfl ?_
        refine sf_loc (lv' := [(0, .ref (q 22)), (1, .int y5)]) [1, 0] rfl ?_
        exact h
  | (_ + 2), _ => exact trivial
set_option maxHeartbeats 4000000 in
set_option maxRecDepth 100000 in
theorem c_X2_senseOfAtom_2 {l : Launch} {D : va_G} {q : Nat → Nat} {dA : Nat → ClassId} {tv ta tb : Nat} (hq : sf_inj q KX) {σ τ : sf_St} {u0 : Int32} {r : Int32} (h : R_X2_senseOfAtom 33 34 23 24 25 26 σ u0 r τ) : sf_Mi l yX2_senseOfAtom wsX2_senseOfAtom ({ frames := 1, cells := 0, slots := 0, locals := 27 }) D vwCl q dA KX (sf_EX q tv ta tb) [.ref (q 32), .ref (q 1), .ref (q 22), .int u0] σ r τ := by
  refine sf_meti (cc := cX2_senseOfAtom) (maxL := 5) (ret := (some .int)) (own := RX2) (by decide +kernel) rfl rfl hq sf_EXk (Nat.le_of_ble_eq_true rfl) ?_
  intro p e s m args below meth c X
  have hT := X.2.2.2.1.2.1
  unfold R_X2_senseOfAtom at h
  refine sf_loc (lv' := [(0, .ref (q 32)), (1, .ref (q 1)), (2, .ref (q 22)), (3, .int u0)]) [0, 1, 2, 3] rfl ?_
  refine sf_aload_n (i := 2) (j := 2) X dX2_senseOfAtom_0 rfl rfl rfl ?_
  refine sf_getR (C := RX4) (T := TX4) (N := 4) (ci := 4) (j := 0) (k' := 23) X (fun w h => sf_memc (inX4 w h)) rfl rfl (by decide) (X.1.2.2.2.2 _ (sf_memc tw_130)) (fun _ h9 => h9) rfl dX2_senseOfAtom_1 rfl ?_
  refine sf_iload_n (i := 3) (j := 3) X dX2_senseOfAtom_4 rfl rfl rfl ?_
  obtain ⟨b1, h⟩ := h
  refine sf_iald X rfl b1 dX2_senseOfAtom_5 rfl ?_
  refine sf_top (fun y2 hy2 => ?_)
  have h := h y2 hy2
  refine sf_istore (i := 4) (lv' := [(4, .int y2), (0, .ref (q 32)), (1, .ref (q 1)), (2, .ref (q 22)), (3, .int u0)]) X dX2_senseOfAtom_6 (by decide) rfl rfl ?_
  refine sf_iload (i := 4) (j := 0) X dX2_senseOfAtom_8 rfl rfl ?_
  refine sf_if_ne (tgt := 17) X dX2_senseOfAtom_10 rfl rfl (fun c3 => ?_) (fun c3 => ?_)
  · have h := sf_iff c3 h
    refine sf_iload (i := 4) (j := 0) X dX2_senseOfAtom_17 rfl rfl ?_
    refine sf_aload_n (i := 0) (j := 1) X dX2_senseOfAtom_19 rfl rfl rfl ?_
    refine sf_aload_n (i := 1) (j := 2) X dX2_senseOfAtom_20 rfl rfl rfl ?_
    refine sf_iload_n (i := 3) (j := 4) X dX2_senseOfAtom_21 rfl rfl rfl ?_
    refine sf_iconst (v := (-1)) X dX2_senseOfAtom_22 sf_ic_m1 rfl ?_
    obtain ⟨r6, τ5, hR4, h⟩ := h
    refine sf_callVi (As := [.ref (q 1), .int u0, .int (-1 : Int32)]) (rest := [.int y2]) (cv := (RX2, TX2, 2)) X rfl rfl (c_X2_orderSign hq hR4) (cwV 3 X.1.2.2.2.2 (sf_gV tw_453 tw_455 tw_6 tw_45 tw_456) rfl rfl rfl ⟨rfl, hd_X2_orderSign⟩ ⟨Nat.le_of_ble_eq_true rfl, Nat.le_of_ble_eq_true rfl⟩) rfl rfl (Nat.le_of_ble_eq_true rfl) dX2_senseOfAtom_23 rfl ?_
    refine sf_imul X dX2_senseOfAtom_26 rfl ?_
    exact sf_reti X h dX2_senseOfAtom_27
  · have h := sf_ift c3 h
    refine sf_iconst (v := 0) X dX2_senseOfAtom_13 sf_ic_0 rfl ?_
    refine sf_goto (tgt := 27) X dX2_senseOfAtom_14 rfl ?_
    exact sf_reti X h dX2_senseOfAtom_27
set_option maxHeartbeats 4000000 in
set_option maxRecDepth 100000 in
theorem c_X2_senseOfBond_2 {l : Launch} {D : va_G} {q : Nat → Nat} {dA : Nat → ClassId} {tv ta tb : Nat} (hq : sf_inj q KX) {σ τ : sf_St} {u0 : Int32} {r : Int32} (h : R_X2_senseOfBond 33 34 23 24 25 26 σ u0 r τ) : sf_Mi l yX2_senseOfBond wsX2_senseOfBond ({ frames := 1, cells := 0, slots := 0, locals := 27 }) D vwCl q dA KX (sf_EX q tv ta tb) [.ref (q 32), .ref (q 1), .ref (q 22), .int u0] σ r τ := by
  refine sf_meti (cc := cX2_senseOfBond) (maxL := 7) (ret := (some .int)) (own := RX2) (by decide +kernel) rfl rfl hq sf_EXk (Nat.le_of_ble_eq_true rfl) ?_
  intro p e s m args below meth c X
  have hT := X.2.2.2.1.2.1
  unfold R_X2_senseOfBond at h
  refine sf_loc (lv' := [(0, .ref (q 32)), (1, .ref (q 1)), (2, .ref (q 22)), (3, .int u0)]) [0, 1, 2, 3] rfl ?_
  refine sf_aload_n (i := 2) (j := 2) X dX2_senseOfBond_0 rfl rfl rfl ?_
  refine sf_getR (C := RX4) (T := TX4) (N := 4) (ci := 4) (j := 1) (k' := 24) X (fun w h => sf_memc (inX4 w h)) rfl rfl (by decide) (X.1.2.2.2.2 _ (sf_memc tw_132)) (fun _ h9 => h9) rfl dX2_senseOfBond_1 rfl ?_
  refine sf_iload_n (i := 3) (j := 3) X dX2_senseOfBond_4 rfl rfl rfl ?_
  obtain ⟨b1, h⟩ := h
  refine sf_iald X rfl b1 dX2_senseOfBond_5 rfl ?_
  refine sf_top (fun y2 hy2 => ?_)
  have h := h y2 hy2
  refine sf_istore (i := 4) (lv' := [(4, .int y2), (0, .ref (q 32)), (1, .ref (q 1)), (2, .ref (q 22)), (3, .int u0)]) X dX2_senseOfBond_6 (by decide) rfl rfl ?_
  refine sf_iload (i := 4) (j := 0) X dX2_senseOfBond_8 rfl rfl ?_
  refine sf_if_ne (tgt := 15) X dX2_senseOfBond_10 rfl rfl (fun c3 => ?_) (fun c3 => ?_)
  · have h := sf_iff c3 h
    refine sf_aload_n (i := 1) (j := 2) X dX2_senseOfBond_15 rfl rfl rfl ?_
    refine sf_getR (C := RX0) (T := TX0) (N := 10) (ci := 0) (j := 4) (k' := 5) X (fun w h => sf_memc (inX0 w h)) rfl rfl (by decide) (X.1.2.2.2.2 _ (sf_memc tw_88)) (fun _ h9 => h9) rfl dX2_senseOfBond_16 rfl ?_
    refine sf_iload_n (i := 3) (j := 4) X dX2_senseOfBond_19 rfl rfl rfl ?_
    obtain ⟨b4, h⟩ := h
    refine sf_iald X rfl b4 dX2_senseOfBond_20 rfl ?_
    refine sf_top (fun y5 hy5 => ?_)
    have h := h y5 hy5
    refine sf_istore (i := 5) (lv' := [(5, .int y5), (4, .int y2), (0, .ref (q 32)), (1, .ref (q 1)), (2, .ref (q 22)), (3, .int u0)]) X dX2_senseOfBond_21 (by decide) rfl rfl ?_
    refine sf_aload_n (i := 1) (j := 3) X dX2_senseOfBond_23 rfl rfl rfl ?_
    refine sf_getR (C := RX0) (T := TX0) (N := 10) (ci := 0) (j := 5) (k' := 6) X (fun w h => sf_memc (inX0 w h)) rfl rfl (by decide) (X.1.2.2.2.2 _ (sf_memc tw_91)) (fun _ h9 => h9) rfl dX2_senseOfBond_24 rfl ?_
    refine sf_iload_n (i := 3) (j := 5) X dX2_senseOfBond_27 rfl rfl rfl ?_
    obtain ⟨b6, h⟩ := h
    refine sf_iald X rfl b6 dX2_senseOfBond_28 rfl ?_
    refine sf_top (fun y7 hy7 => ?_)
    have h := h y7 hy7
    refine sf_istore (i := 6) (lv' := [(6, .int y7), (5, .int y5), (4, .int y2), (0, .ref (q 32)), (1, .ref (q 1)), (2, .ref (q 22)), (3, .int u0)]) X dX2_senseOfBond_29 (by decide) rfl rfl ?_
    refine sf_iload (i := 4) (j := 2) X dX2_senseOfBond_31 rfl rfl ?_
    refine sf_aload_n (i := 0) (j := 3) X dX2_senseOfBond_33 rfl rfl rfl ?_
    refine sf_aload_n (i := 1) (j := 4) X dX2_senseOfBond_34 rfl rfl rfl ?_
    refine sf_iload (i := 5) (j := 1) X dX2_senseOfBond_35 rfl rfl ?_
    refine sf_iload (i := 6) (j := 0) X dX2_senseOfBond_37 rfl rfl ?_
    obtain ⟨r10, τ9, hR8, h⟩ := h
    refine sf_callVi (As := [.ref (q 1), .int y5, .int y7]) (rest := [.int y2]) (cv := (RX2, TX2, 2)) X rfl rfl (c_X2_orderSign hq hR8) (cwV 3 X.1.2.2.2.2 (sf_gV tw_453 tw_455 tw_6 tw_45 tw_456) rfl rfl rfl ⟨rfl, hd_X2_orderSign⟩ ⟨Nat.le_of_ble_eq_true rfl, Nat.le_of_ble_eq_true rfl⟩) rfl rfl (Nat.le_of_ble_eq_true rfl) dX2_senseOfBond_39 rfl ?_
    refine sf_imul X dX2_senseOfBond_42 rfl ?_
    refine sf_aload_n (i := 0) (j := 3) X dX2_senseOfBond_43 rfl rfl rfl ?_
    refine sf_aload_n (i := 1) (j := 4) X dX2_senseOfBond_44 rfl rfl rfl ?_
    refine sf_iload (i := 6) (j := 0) X dX2_senseOfBond_45 rfl rfl ?_
    refine sf_iload (i := 5) (j := 1) X dX2_senseOfBond_47 rfl rfl ?_
    obtain ⟨r13, τ12, hR11, h⟩ := h
    refine sf_callVi (As := [.ref (q 1), .int y7, .int y5]) (rest := [.int (y2 * r10)]) (cv := (RX2, TX2, 2)) X rfl rfl (c_X2_orderSign hq hR11) (cwV 3 X.1.2.2.2.2 (sf_gV tw_453 tw_455 tw_6 tw_45 tw_456) rfl rfl rfl ⟨rfl, hd_X2_orderSign⟩ ⟨Nat.le_of_ble_eq_true rfl, Nat.le_of_ble_eq_true rfl⟩) rfl rfl (Nat.le_of_ble_eq_true rfl) dX2_senseOfBond_49 rfl ?_
    refine sf_imul X dX2_senseOfBond_52 rfl ?_
    exact sf_reti X h dX2_senseOfBond_53
  · have h := sf_ift c3 h
    refine sf_iconst (v := 0) X dX2_senseOfBond_13 sf_ic_0 rfl ?_
    exact sf_reti X h dX2_senseOfBond_14
set_option maxHeartbeats 4000000 in
set_option maxRecDepth 100000 in
theorem c_X2_code_2 {l : Launch} {D : va_G} {q : Nat → Nat} {dA : Nat → ClassId} {tv ta tb : Nat} (hq : sf_inj q KX) {σ τ : sf_St} {r : Int32} (h : R_X2_code 23 24 25 26 σ  r τ) : sf_Mi l yX2_code wsX2_code ({ frames := 2, cells := 0, slots := 0, locals := 53 }) D vwCl q dA KX (sf_EX q tv ta tb) [.ref (q 32), .ref (q 1), .ref (q 22)] σ r τ := by
  refine sf_meti (cc := cX2_code) (maxL := 7) (ret := (some .int)) (own := RX2) (by decide +kernel) rfl rfl hq sf_EXk (Nat.le_of_ble_eq_true rfl) ?_
  intro p e s m args below meth c X
  have hT := X.2.2.2.1.2.1
  refine sf_loc (lv' := [(0, .ref (q 32)), (1, .ref (q 1)), (2, .ref (q 22))]) [0, 1, 2] rfl ?_
  refine h (fun t σ u0 u1 u2 => match t with
    | 0 => sf_G p l e (headSpec wsX2_code ({ frames := 2, cells := 0, slots := 0, locals := 53 })).room s m args below meth c (sf_Qi D vwCl q dA KX (sf_EX q tv ta tb) below args s r τ) 7 D vwCl q dA KX σ 0 [(0, .ref (q 32)), (1, .ref (q 1)), (2, .ref (q 22))] []
    | 1 => sf_G p l e (headSpec wsX2_code ({ frames := 2, cells := 0, slots := 0, locals := 53 })).room s m args below meth c (sf_Qi D vwCl q dA KX (sf_EX q tv ta tb) below args s r τ) 7 D vwCl q dA KX σ 5 [(0, .ref (q 32)), (1, .ref (q 1)), (2, .ref (q 22)), (3, .int u0), (4, .int u1)] []
    | 2 => sf_G p l e (headSpec wsX2_code ({ frames := 2, cells := 0, slots := 0, locals := 53 })).room s m args below meth c (sf_Qi D vwCl q dA KX (sf_EX q tv ta tb) below args s r τ) 7 D vwCl q dA KX σ 43 [(0, .ref (q 32)), (1, .ref (q 1)), (2, .ref (q 22)), (3, .int u0), (4, .int u1)] []
    | 3 => sf_G p l e (headSpec wsX2_code ({ frames := 2, cells := 0, slots := 0, locals := 53 })).room s m args below meth c (sf_Qi D vwCl q dA KX (sf_EX q tv ta tb) below args s r τ) 7 D vwCl q dA KX σ 55 [(0, .ref (q 32)), (1, .ref (q 1)), (2, .ref (q 22)), (3, .int u0), (4, .int u1), (5, .int u2)] []
    | _ => True) ?_
  intro t σ u0 u1 u2 h
  match t, h with
  | 0, h =>
      replace h := fe_R_X2_code_0 h
      unfold tr_R_X2_code_0 at h
      show sf_G p l e (headSpec wsX2_code ({ frames := 2, cells := 0, slots := 0, locals := 53 })).room s m args below meth c (sf_Qi D vwCl q dA KX (sf_EX q tv ta tb) below args s r τ) 7 D vwCl q dA KX σ 0 [(0, .ref (q 32)), (1, .ref (q 1)), (2, .ref (q 22))] []
      refine sf_iconst (v := 0) X dX2_code_0 sf_ic_0 rfl ?_
      refine sf_istore_n (i := 3) (lv' := [(3, .int (0 : Int32)), (0, .ref (q 32)), (1, .ref (q 1)), (2, .ref (q 22))]) X dX2_code_1 rfl (by decide) rfl rfl ?_
      refine sf_iconst (v := 0) X dX2_code_2 sf_ic_0 rfl ?_
      refine sf_istore (i := 4) (lv' := [(4, .int (0 : Int32)), (3, .int (0 : Int32)), (0, .ref (q 32)), (1, .ref (q 1)), (2, .ref (q 22))]) X dX2_code_3 (by decide) rfl rfl ?_
      refine sf_loc (lv' := [(0, .ref (q 32)), (1, .ref (q 1)), (2, .ref (q 22)), (3, .int (0 : Int32)), (4, .int (0 : Int32))]) [2, 3, 4, 1, 0] rfl ?_
      exact h
  | 1, h =>
      replace h := fe_R_X2_code_1 h
      unfold tr_R_X2_code_1 at h
      show sf_G p l e (headSpec wsX2_code ({ frames := 2, cells := 0, slots := 0, locals := 53 })).room s m args below meth c (sf_Qi D vwCl q dA KX (sf_EX q tv ta tb) below args s r τ) 7 D vwCl q dA KX σ 5 [(0, .ref (q 32)), (1, .ref (q 1)), (2, .ref (q 22)), (3, .int u0), (4, .int u1)] []
      refine sf_iload (i := 4) (j := 4) X dX2_code_5 rfl rfl ?_
      refine sf_aload_n (i := 1) (j := 1) X dX2_code_7 rfl rfl rfl ?_
      refine sf_getI (C := RX0) (T := TX0) (N := 10) (ci := 0) (j := 3) X (fun w h => sf_memc (inX0 w h)) rfl rfl (by decide) (X.1.2.2.2.2 _ (sf_memc tw_86)) (fun _ h9 => h9) rfl dX2_code_8 rfl ?_
      refine sf_icmp_ge (tgt := 40) X dX2_code_11 rfl rfl (fun c1 => ?_) (fun c1 => ?_)
      · have h := sf_ift c1 h
        refine sf_iconst (v := 0) X dX2_code_40 sf_ic_0 rfl ?_
        refine sf_istore (i := 4) (lv' := [(4, .int (0 : Int32)), (0, .ref (q 32)), (1, .ref (q 1)), (2, .ref (q 22)), (3, .int u0)]) X dX2_code_41 (by decide) rfl rfl ?_
        refine sf_loc (lv' := [(0, .ref (q 32)), (1, .ref (q 1)), (2, .ref (q 22)), (3, .int u0), (4, .int (0 : Int32))]) [1, 2, 3, 4, 0] rfl ?_
        exact h
      · have h := sf_iff c1 h
        refine sf_iconst (v := 3) X dX2_code_14 sf_ic_3 rfl ?_
        refine sf_iload_n (i := 3) (j := 3) X dX2_code_15 rfl rfl rfl ?_
        refine sf_imul X dX2_code_16 rfl ?_
        refine sf_aload_n (i := 0) (j := 0) X dX2_code_17 rfl rfl rfl ?_
        refine sf_aload_n (i := 1) (j := 1) X dX2_code_18 rfl rfl rfl ?_
        refine sf_aload_n (i := 2) (j := 2) X dX2_code_19 rfl rfl rfl ?_
        refine sf_aload_n (i := 0) (j := 0) X dX2_code_20 rfl rfl rfl ?_
        refine sf_getR (C := RX2) (T := TX2) (N := 2) (ci := 2) (j := 0) (k' := 33) X (fun w h => sf_memc (inX2 w h)) rfl rfl (by decide) (X.1.2.2.2.2 _ (sf_memc tw_158)) (fun _ h9 => h9) rfl dX2_code_21 rfl ?_
        refine sf_iload (i := 4) (j := 4) X dX2_code_24 rfl rfl ?_
        obtain ⟨b2, h⟩ := h
        refine sf_iald X rfl b2 dX2_code_26 rfl ?_
        obtain ⟨r5, τ4, hR3, h⟩ := h
        refine sf_callVi (As := [.ref (q 1), .ref (q 22), .int (σ 33 (sf_ix u1))]) (rest := [.int ((3 : Int32) * u0)]) (cv := (RX2, TX2, 2)) X rfl rfl (c_X2_senseOfAtom_2 hq hR3) (cwV 3 X.1.2.2.2.2 (sf_gV tw_449 tw_450 tw_451 tw_45 tw_452) rfl rfl rfl ⟨rfl, hd_X2_senseOfAtom⟩ ⟨Nat.le_of_ble_eq_true rfl, Nat.le_of_ble_eq_true rfl⟩) rfl rfl (Nat.le_of_ble_eq_true rfl) dX2_code_27 rfl ?_
        refine sf_iadd X dX2_code_30 rfl ?_
        refine sf_iconst (v := 1) X dX2_code_31 sf_ic_1 rfl ?_
        refine sf_iadd X dX2_code_32 rfl ?_
        refine sf_top (fun y6 hy6 => ?_)
        have h := h y6 hy6
        refine sf_istore_n (i := 3) (lv' := [(3, .int y6), (0, .ref (q 32)), (1, .ref (q 1)), (2, .ref (q 22)), (4, .int u1)]) X dX2_code_33 rfl (by decide) rfl rfl ?_
        refine sf_iinc (i := 4) (j := 4) (d := 1) (lv' := fun y7 => [(4, .int y7), (3, .int y6), (0, .ref (q 32)), (1, .ref (q 1)), (2, .ref (q 22))]) X dX2_code_34 rfl sf_ic_1 (by decide) (fun _ => rfl) rfl (fun y7 hy7 => ?_)
        have h := h y7 hy7
        refine sf_goto (tgt := 5) X dX2_code_37 rfl ?_
        refine sf_loc (lv' := [(0, .ref (q 32)), (1, .ref (q 1)), (2, .ref (q 22)), (3, .int y6), (4, .int y7)]) [2, 3, 4, 1, 0] rfl ?_
        exact h
  | 2, h =>
      replace h := fe_R_X2_code_2 h
      unfold tr_R_X2_code_2 at h
      show sf_G p l e (headSpec wsX2_code ({ frames := 2, cells := 0, slots := 0, locals := 53 })).room s m args below meth c (sf_Qi D vwCl q dA KX (sf_EX q tv ta tb) below args s r τ) 7 D vwCl q dA KX σ 43 [(0, .ref (q 32)), (1, .ref (q 1)), (2, .ref (q 22)), (3, .int u0), (4, .int u1)] []
      refine sf_iload (i := 4) (j := 4) X dX2_code_43 rfl rfl ?_
      refine sf_aload_n (i := 1) (j := 1) X dX2_code_45 rfl rfl rfl ?_
      refine sf_getI (C := RX0) (T := TX0) (N := 10) (ci := 0) (j := 3) X (fun w h => sf_memc (inX0 w h)) rfl rfl (by decide) (X.1.2.2.2.2 _ (sf_memc tw_86)) (fun _ h9 => h9) rfl dX2_code_46 rfl ?_
      refine sf_icmp_ge (tgt := 125) X dX2_code_49 rfl rfl (fun c8 => ?_) (fun c8 => ?_)
      · have h := sf_ift c8 h
        refine sf_iload_n (i := 3) (j := 3) X dX2_code_125 rfl rfl rfl ?_
        exact sf_reti X h dX2_code_126
      · have h := sf_iff c8 h
        refine sf_iconst (v := 0) X dX2_code_52 sf_ic_0 rfl ?_
        refine sf_istore (i := 5) (lv' := [(5, .int (0 : Int32)), (0, .ref (q 32)), (1, .ref (q 1)), (2, .ref (q 22)), (3, .int u0), (4, .int u1)]) X dX2_code_53 (by decide) rfl rfl ?_
        refine sf_loc (lv' := [(0, .ref (q 32)), (1, .ref (q 1)), (2, .ref (q 22)), (3, .int u0), (4, .int u1), (5, .int (0 : Int32))]) [1, 2, 3, 4, 5, 0] rfl ?_
        exact h
  | 3, h =>
      replace h := fe_R_X2_code_3 h
      unfold tr_R_X2_code_3 at h
      show sf_G p l e (headSpec wsX2_code ({ frames := 2, cells := 0, slots := 0, locals := 53 })).room s m args below meth c (sf_Qi D vwCl q dA KX (sf_EX q tv ta tb) below args s r τ) 7 D vwCl q dA KX σ 55 [(0, .ref (q 32)), (1, .ref (q 1)), (2, .ref (q 22)), (3, .int u0), (4, .int u1), (5, .int u2)] []
      refine sf_iload (i := 5) (j := 5) X dX2_code_55 rfl rfl ?_
      refine sf_iload (i := 4) (j := 4) X dX2_code_57 rfl rfl ?_
      refine sf_icmp_ge (tgt := 119) X dX2_code_59 rfl rfl (fun c9 => ?_) (fun c9 => ?_)
      · have h := sf_ift c9 h
        refine sf_iinc (i := 4) (j := 4) (d := 1) (lv' := fun y10 => [(4, .int y10), (0, .ref (q 32)), (1, .ref (q 1)), (2, .ref (q 22)), (3, .int u0), (5, .int u2)]) X dX2_code_119 rfl sf_ic_1 (by decide) (fun _ => rfl) rfl (fun y10 hy10 => ?_)
        have h := h y10 hy10
        refine sf_goto (tgt := 43) X dX2_code_122 rfl ?_
        refine sf_loc (lv' := [(0, .ref (q 32)), (1, .ref (q 1)), (2, .ref (q 22)), (3, .int u0), (4, .int y10)]) [1, 2, 3, 4, 0] rfl ?_
        exact h
      · have h := sf_iff c9 h
        refine sf_aload_n (i := 1) (j := 1) X dX2_code_62 rfl rfl rfl ?_
        refine sf_aload_n (i := 0) (j := 0) X dX2_code_63 rfl rfl rfl ?_
        refine sf_getR (C := RX2) (T := TX2) (N := 2) (ci := 2) (j := 0) (k' := 33) X (fun w h => sf_memc (inX2 w h)) rfl rfl (by decide) (X.1.2.2.2.2 _ (sf_memc tw_158)) (fun _ h9 => h9) rfl dX2_code_64 rfl ?_
        refine sf_iload (i := 4) (j := 4) X dX2_code_67 rfl rfl ?_
        obtain ⟨b11, h⟩ := h
        refine sf_iald X rfl b11 dX2_code_69 rfl ?_
        refine sf_aload_n (i := 0) (j := 0) X dX2_code_70 rfl rfl rfl ?_
        refine sf_getR (C := RX2) (T := TX2) (N := 2) (ci := 2) (j := 0) (k' := 33) X (fun w h => sf_memc (inX2 w h)) rfl rfl (by decide) (X.1.2.2.2.2 _ (sf_memc tw_158)) (fun _ h9 => h9) rfl dX2_code_71 rfl ?_
        refine sf_iload (i := 5) (j := 5) X dX2_code_74 rfl rfl ?_
        obtain ⟨b12, h⟩ := h
        refine sf_iald X rfl b12 dX2_code_76 rfl ?_
        obtain ⟨r15, τ14, hR13, h⟩ := h
        refine sf_callVi (As := [.int (σ 33 (sf_ix u1)), .int (σ 33 (sf_ix u2))]) (rest := []) (cv := (RX0, TX0, 10)) X rfl rfl (c_X0_bondOf hq hR13) (cwV 2 X.1.2.2.2.2 (sf_gV tw_457 tw_369 tw_370 tw_42 tw_371) rfl rfl rfl ⟨rfl, hd_X0_bondOf⟩ ⟨Nat.le_of_ble_eq_true rfl, Nat.le_of_ble_eq_true rfl⟩) rfl rfl (Nat.le_of_ble_eq_true rfl) dX2_code_77 rfl ?_
        refine sf_istore (i := 6) (lv' := [(6, .int r15), (0, .ref (q 32)), (1, .ref (q 1)), (2, .ref (q 22)), (3, .int u0), (4, .int u1), (5, .int u2)]) X dX2_code_80 (by decide) rfl rfl ?_
        refine sf_iload (i := 6) (j := 0) X dX2_code_82 rfl rfl ?_
        refine sf_iconst (v := (-1)) X dX2_code_84 sf_ic_m1 rfl ?_
        refine sf_icmp_eq (tgt := 113) X dX2_code_85 rfl rfl (fun c16 => ?_) (fun c16 => ?_)
        · have h := sf_ift c16 h
          refine sf_iinc (i := 5) (j := 6) (d := 1) (lv' := fun y17 => [(5, .int y17), (6, .int r15), (0, .ref (q 32)), (1, .ref (q 1)), (2, .ref (q 22)), (3, .int u0), (4, .int u1)]) X dX2_code_113 rfl sf_ic_1 (by decide) (fun _ => rfl) rfl (fun y17 hy17 => ?_)
          have h := h y17 hy17
          refine sf_goto (tgt := 55) X dX2_code_116 rfl ?_
          refine sf_loc (lv' := [(0, .ref (q 32)), (1, .ref (q 1)), (2, .ref (q 22)), (3, .int u0), (4, .int u1), (5, .int y17)]) [2, 3, 4, 5, 6, 0] rfl ?_
          exact h
        · have h := sf_iff c16 h
          refine sf_aload_n (i := 2) (j := 3) X dX2_code_88 rfl rfl rfl ?_
          refine sf_getR (C := RX4) (T := TX4) (N := 4) (ci := 4) (j := 2) (k' := 25) X (fun w h => sf_memc (inX4 w h)) rfl rfl (by decide) (X.1.2.2.2.2 _ (sf_memc tw_134)) (fun _ h9 => h9) rfl dX2_code_89 rfl ?_
          refine sf_iload (i := 6) (j := 0) X dX2_code_92 rfl rfl ?_
          obtain ⟨b18, h⟩ := h
          refine sf_zald X rfl b18 dX2_code_94 rfl ?_
          refine sf_if_eq (tgt := 113) X dX2_code_95 rfl rfl (fun c19 => ?_) (fun c19 => ?_)
          · have h := sf_ift c19 h
            refine sf_iinc (i := 5) (j := 6) (d := 1) (lv' := fun y20 => [(5, .int y20), (6, .int r15), (0, .ref (q 32)), (1, .ref (q 1)), (2, .ref (q 22)), (3, .int u0), (4, .int u1)]) X dX2_code_113 rfl sf_ic_1 (by decide) (fun _ => rfl) rfl (fun y20 hy20 => ?_)
            have h := h y20 hy20
            refine sf_goto (tgt := 55) X dX2_code_116 rfl ?_
            refine sf_loc (lv' := [(0, .ref (q 32)), (1, .ref (q 1)), (2, .ref (q 22)), (3, .int u0), (4, .int u1), (5, .int y20)]) [2, 3, 4, 5, 6, 0] rfl ?_
            exact h
          · have h := sf_iff c19 h
            refine sf_iconst (v := 3) X dX2_code_98 sf_ic_3 rfl ?_
            refine sf_iload_n (i := 3) (j := 4) X dX2_code_99 rfl rfl rfl ?_
            refine sf_imul X dX2_code_100 rfl ?_
            refine sf_aload_n (i := 0) (j := 1) X dX2_code_101 rfl rfl rfl ?_
            refine sf_aload_n (i := 1) (j := 2) X dX2_code_102 rfl rfl rfl ?_
            refine sf_aload_n (i := 2) (j := 3) X dX2_code_103 rfl rfl rfl ?_
            refine sf_iload (i := 6) (j := 0) X dX2_code_104 rfl rfl ?_
            obtain ⟨r23, τ22, hR21, h⟩ := h
            refine sf_callVi (As := [.ref (q 1), .ref (q 22), .int r15]) (rest := [.int ((3 : Int32) * u0)]) (cv := (RX2, TX2, 2)) X rfl rfl (c_X2_senseOfBond_2 hq hR21) (cwV 3 X.1.2.2.2.2 (sf_gV tw_458 tw_459 tw_460 tw_45 tw_461) rfl rfl rfl ⟨rfl, hd_X2_senseOfBond⟩ ⟨Nat.le_of_ble_eq_true rfl, Nat.le_of_ble_eq_true rfl⟩) rfl rfl (Nat.le_of_ble_eq_true rfl) dX2_code_106 rfl ?_
            refine sf_iadd X dX2_code_109 rfl ?_
            refine sf_iconst (v := 1) X dX2_code_110 sf_ic_1 rfl ?_
            refine sf_iadd X dX2_code_111 rfl ?_
            refine sf_top (fun y24 hy24 => ?_)
            have h := h y24 hy24
            refine sf_istore_n (i := 3) (lv' := [(3, .int y24), (6, .int r15), (0, .ref (q 32)), (1, .ref (q 1)), (2, .ref (q 22)), (4, .int u1), (5, .int u2)]) X dX2_code_112 rfl (by decide) rfl rfl ?_
            refine sf_iinc (i := 5) (j := 6) (d := 1) (lv' := fun y25 => [(5, .int y25), (3, .int y24), (6, .int r15), (0, .ref (q 32)), (1, .ref (q 1)), (2, .ref (q 22)), (4, .int u1)]) X dX2_code_113 rfl sf_ic_1 (by decide) (fun _ => rfl) rfl (fun y25 hy25 => ?_)
            have h := h y25 hy25
            refine sf_goto (tgt := 55) X dX2_code_116 rfl ?_
            refine sf_loc (lv' := [(0, .ref (q 32)), (1, .ref (q 1)), (2, .ref (q 22)), (3, .int y24), (4, .int u1), (5, .int y25)]) [3, 4, 5, 1, 6, 0] rfl ?_
            exact h
  | (_ + 4), _ => exact trivial
set_option maxHeartbeats 4000000 in
set_option maxRecDepth 100000 in
theorem c_X3_weigh_2 {l : Launch} {D : va_G} {q : Nat → Nat} {dA : Nat → ClassId} {tv ta tb : Nat} (hq : sf_inj q KX) {σ τ : sf_St} (h : R_X3_weigh 23 24 25 26 σ  τ) : sf_Mv l yX3_weigh wsX3_weigh ({ frames := 3, cells := 0, slots := 0, locals := 79 }) D vwCl q dA KX (sf_EX q tv ta tb) [.ref (q 27), .ref (q 1), .ref (q 22)] σ τ := by
  refine sf_metv (cc := cX3_weigh) (maxL := 4) (ret := none) (own := RX3) (by decide +kernel) rfl rfl hq sf_EXk (Nat.le_of_ble_eq_true rfl) ?_
  intro p e s m args below meth c X
  have hT := X.2.2.2.1.2.1
  unfold R_X3_weigh at h
  refine sf_loc (lv' := [(0, .ref (q 27)), (1, .ref (q 1)), (2, .ref (q 22))]) [0, 1, 2] rfl ?_
  refine sf_aload_n (i := 0) (j := 0) X dX3_weigh_0 rfl rfl rfl ?_
  refine sf_getR (C := RX3) (T := TX3) (N := 5) (ci := 3) (j := 2) (k' := 32) X (fun w h => sf_memc (inX3 w h)) rfl rfl (by decide) (X.1.2.2.2.2 _ (sf_memc tw_173)) (fun _ h9 => h9) rfl dX3_weigh_1 rfl ?_
  refine sf_aload_n (i := 1) (j := 1) X dX3_weigh_4 rfl rfl rfl ?_
  refine sf_aload_n (i := 2) (j := 2) X dX3_weigh_5 rfl rfl rfl ?_
  obtain ⟨r3, τ2, hR1, h⟩ := h
  refine sf_callVi (As := [.ref (q 1), .ref (q 22)]) (rest := []) (cv := (RX2, TX2, 2)) X rfl rfl (c_X2_code_2 hq hR1) (cwV 2 X.1.2.2.2.2 (sf_gV tw_445 tw_446 tw_447 tw_45 tw_448) rfl rfl rfl ⟨rfl, hd_X2_code⟩ ⟨Nat.le_of_ble_eq_true rfl, Nat.le_of_ble_eq_true rfl⟩) rfl rfl (Nat.le_of_ble_eq_true rfl) dX3_weigh_6 rfl ?_
  refine sf_istore_n (i := 3) (lv' := [(3, .int r3), (0, .ref (q 27)), (1, .ref (q 1)), (2, .ref (q 22))]) X dX3_weigh_9 rfl (by decide) rfl rfl ?_
  refine sf_iload_n (i := 3) (j := 0) X dX3_weigh_10 rfl rfl rfl ?_
  refine sf_aload_n (i := 0) (j := 1) X dX3_weigh_11 rfl rfl rfl ?_
  refine sf_getI (C := RX3) (T := TX3) (N := 5) (ci := 3) (j := 4) X (fun w h => sf_memc (inX3 w h)) rfl rfl (by decide) (X.1.2.2.2.2 _ (sf_memc tw_175)) (fun _ h9 => h9) rfl dX3_weigh_12 rfl ?_
  refine sf_icmp_ge (tgt := 34) X dX3_weigh_15 rfl rfl (fun c4 => ?_) (fun c4 => ?_)
  · have h := sf_ift c4 h
    exact sf_retv X h dX3_weigh_34
  · have h := sf_iff c4 h
    refine sf_aload_n (i := 0) (j := 1) X dX3_weigh_18 rfl rfl rfl ?_
    refine sf_iload_n (i := 3) (j := 0) X dX3_weigh_19 rfl rfl rfl ?_
    refine sf_putI (C := RX3) (T := TX3) (N := 5) (ci := 3) (j := 4) (ty := .int) X (fun w h => sf_memc (inX3 w h)) rfl rfl (by decide) (X.1.2.2.2.2 _ (sf_memc tw_175)) (fun _ h9 => h9) tyX3 tyX3_ok nmX3 rfl (by decide +kernel) rfl rfl rfl dX3_weigh_20 rfl (fun τ5 hτ5 => ?_)
    have h := h τ5 hτ5
    refine sf_aload_n (i := 0) (j := 1) X dX3_weigh_23 rfl rfl rfl ?_
    refine sf_getR (C := RX3) (T := TX3) (N := 5) (ci := 3) (j := 1) (k' := 29) X (fun w h => sf_memc (inX3 w h)) rfl rfl (by decide) (X.1.2.2.2.2 _ (sf_memc tw_171)) (fun _ h9 => h9) rfl dX3_weigh_24 rfl ?_
    refine sf_aload_n (i := 0) (j := 1) X dX3_weigh_27 rfl rfl rfl ?_
    refine sf_getR (C := RX3) (T := TX3) (N := 5) (ci := 3) (j := 2) (k' := 32) X (fun w h => sf_memc (inX3 w h)) rfl rfl (by decide) (X.1.2.2.2.2 _ (sf_memc tw_173)) (fun _ h9 => h9) rfl dX3_weigh_28 rfl ?_
    obtain ⟨τ7, hR6, h⟩ := h
    refine sf_callVv (As := [.ref (q 32)]) (rest := []) (cv := (RX2, TX2, 2)) X rfl rfl (c_X2_copyFrom hq hR6) (cwV 1 X.1.2.2.2.2 (sf_gV tw_462 tw_463 tw_464 tw_45 tw_465) rfl rfl rfl ⟨rfl, hd_X2_copyFrom⟩ ⟨Nat.le_of_ble_eq_true rfl, Nat.le_of_ble_eq_true rfl⟩) rfl rfl (Nat.le_of_ble_eq_true rfl) dX3_weigh_31 rfl ?_
    exact sf_retv X h dX3_weigh_34
set_option maxHeartbeats 4000000 in
set_option maxRecDepth 100000 in
theorem c_X3_place_2_o {l : Launch} {D : va_G} {q : Nat → Nat} {dA : Nat → ClassId} {tv ta tb : Nat} (hq : sf_inj q KX) {d : Nat} {Rc : sf_St → Int32 → sf_St → Prop} (hRc : ∀ {σ τ : sf_St} {i : Int32}, Rc σ i τ → sf_Mv l yX3_place wsX3_place (sf_rmP d) D vwCl q dA KX (sf_EX q tv ta tb) [.ref (q 27), .ref (q 1), .ref (q 22), .int i] σ τ) {σ τ : sf_St} {u0 : Int32} (h : R_X3_place 23 24 25 26 Rc σ u0 τ) : sf_Mv l yX3_place wsX3_place (sf_rmP (d + 1)) D vwCl q dA KX (sf_EX q tv ta tb) [.ref (q 27), .ref (q 1), .ref (q 22), .int u0] σ τ := by
  refine sf_metv (cc := cX3_place) (maxL := 6) (ret := none) (own := RX3) (by decide +kernel) rfl rfl hq sf_EXk (Nat.le_of_ble_eq_true rfl) ?_
  intro p e s m args below meth c X
  have hT := X.2.2.2.1.2.1
  refine sf_loc (lv' := [(0, .ref (q 27)), (1, .ref (q 1)), (2, .ref (q 22)), (3, .int u0)]) [0, 1, 2, 3] rfl ?_
  refine h (fun t σ u0 u1 u2 => match t with
    | 0 => sf_G p l e (headSpec wsX3_place (sf_rmP (d + 1))).room s m args below meth c (sf_Qv D vwCl q dA KX (sf_EX q tv ta tb) below args s τ) 6 D vwCl q dA KX σ 0 [(0, .ref (q 27)), (1, .ref (q 1)), (2, .ref (q 22)), (3, .int u0)] []
    | 1 => sf_G p l e (headSpec wsX3_place (sf_rmP (d + 1))).room s m args below meth c (sf_Qv D vwCl q dA KX (sf_EX q tv ta tb) below args s τ) 6 D vwCl q dA KX σ 56 [(0, .ref (q 27)), (1, .ref (q 1)), (2, .ref (q 22)), (3, .int u0), (4, .int u1), (5, .int u2)] []
    | _ => True) ?_
  intro t σ u0 u1 u2 h
  match t, h with
  | 0, h =>
      replace h := fe_R_X3_place_0 h
      unfold tr_R_X3_place_0 at h
      show sf_G p l e (headSpec wsX3_place (sf_rmP (d + 1))).room s m args below meth c (sf_Qv D vwCl q dA KX (sf_EX q tv ta tb) below args s τ) 6 D vwCl q dA KX σ 0 [(0, .ref (q 27)), (1, .ref (q 1)), (2, .ref (q 22)), (3, .int u0)] []
      refine sf_iload_n (i := 3) (j := 3) X dX3_place_0 rfl rfl rfl ?_
      refine sf_aload_n (i := 1) (j := 1) X dX3_place_1 rfl rfl rfl ?_
      refine sf_getI (C := RX0) (T := TX0) (N := 10) (ci := 0) (j := 3) X (fun w h => sf_memc (inX0 w h)) rfl rfl (by decide) (X.1.2.2.2.2 _ (sf_memc tw_84)) (fun _ h9 => h9) rfl dX3_place_2 rfl ?_
      refine sf_icmp_lt (tgt := 15) X dX3_place_5 rfl rfl (fun c1 => ?_) (fun c1 => ?_)
      · have h := sf_ift c1 h
        refine sf_aload_n (i := 0) (j := 0) X dX3_place_15 rfl rfl rfl ?_
        refine sf_aload_n (i := 1) (j := 1) X dX3_place_16 rfl rfl rfl ?_
        refine sf_iload_n (i := 3) (j := 3) X dX3_place_17 rfl rfl rfl ?_
        obtain ⟨r4, τ3, hR2, h⟩ := h
        refine sf_callVi (As := [.ref (q 1), .int u0]) (rest := []) (cv := (RX3, TX3, 5)) X rfl rfl (c_X3_lowestRow hq hR2) (cwV 2 X.1.2.2.2.2 (sf_gV tw_469 tw_471 tw_7 tw_44 tw_472) rfl rfl rfl ⟨rfl, hd_X3_lowestRow⟩ ⟨sf_rmPf0 (by decide), sf_rmPl0 (by decide)⟩) rfl rfl (Nat.le_of_ble_eq_true rfl) dX3_place_18 rfl ?_
        refine sf_istore (i := 4) (lv' := [(4, .int r4), (0, .ref (q 27)), (1, .ref (q 1)), (2, .ref (q 22)), (3, .int u0)]) X dX3_place_21 (by decide) rfl rfl ?_
        refine sf_iload (i := 4) (j := 0) X dX3_place_23 rfl rfl ?_
        refine sf_aload_n (i := 0) (j := 1) X dX3_place_25 rfl rfl rfl ?_
        refine sf_getR (C := RX3) (T := TX3) (N := 5) (ci := 3) (j := 0) (k' := 28) X (fun w h => sf_memc (inX3 w h)) rfl rfl (by decide) (X.1.2.2.2.2 _ (sf_memc tw_169)) (fun _ h9 => h9) rfl dX3_place_26 rfl ?_
        refine sf_iload_n (i := 3) (j := 4) X dX3_place_29 rfl rfl rfl ?_
        obtain ⟨b5, h⟩ := h
        refine sf_iald X rfl b5 dX3_place_30 rfl ?_
        refine sf_icmp_le (tgt := 35) X dX3_place_31 rfl rfl (fun c6 => ?_) (fun c6 => ?_)
        · have h := sf_ift c6 h
          refine sf_iload (i := 4) (j := 0) X dX3_place_35 rfl rfl ?_
          refine sf_aload_n (i := 0) (j := 1) X dX3_place_37 rfl rfl rfl ?_
          refine sf_getR (C := RX3) (T := TX3) (N := 5) (ci := 3) (j := 0) (k' := 28) X (fun w h => sf_memc (inX3 w h)) rfl rfl (by decide) (X.1.2.2.2.2 _ (sf_memc tw_169)) (fun _ h9 => h9) rfl dX3_place_38 rfl ?_
          refine sf_iload_n (i := 3) (j := 4) X dX3_place_41 rfl rfl rfl ?_
          obtain ⟨b7, h⟩ := h
          refine sf_iald X rfl b7 dX3_place_42 rfl ?_
          refine sf_icmp_ge (tgt := 53) X dX3_place_43 rfl rfl (fun c8 => ?_) (fun c8 => ?_)
          · have h := sf_ift c8 h
            refine sf_iconst (v := 0) X dX3_place_53 sf_ic_0 rfl ?_
            refine sf_istore (i := 5) (lv' := [(5, .int (0 : Int32)), (4, .int r4), (0, .ref (q 27)), (1, .ref (q 1)), (2, .ref (q 22)), (3, .int u0)]) X dX3_place_54 (by decide) rfl rfl ?_
            refine sf_loc (lv' := [(0, .ref (q 27)), (1, .ref (q 1)), (2, .ref (q 22)), (3, .int u0), (4, .int r4), (5, .int (0 : Int32))]) [2, 3, 4, 5, 1, 0] rfl ?_
            exact h
          · have h := sf_iff c8 h
            refine sf_aload_n (i := 0) (j := 1) X dX3_place_46 rfl rfl rfl ?_
            refine sf_iload_n (i := 3) (j := 4) X dX3_place_47 rfl rfl rfl ?_
            refine sf_iload (i := 4) (j := 0) X dX3_place_48 rfl rfl ?_
            obtain ⟨τ10, hR9, h⟩ := h
            refine sf_callVv (As := [.int u0, .int r4]) (rest := []) (cv := (RX3, TX3, 5)) X rfl rfl (c_X3_lower hq hR9) (cwV 2 X.1.2.2.2.2 (sf_gV tw_479 tw_481 tw_9 tw_44 tw_482) rfl rfl rfl ⟨rfl, hd_X3_lower⟩ ⟨sf_rmPf0 (by decide), sf_rmPl0 (by decide)⟩) rfl rfl (Nat.le_of_ble_eq_true rfl) dX3_place_50 rfl ?_
            refine sf_iconst (v := 0) X dX3_place_53 sf_ic_0 rfl ?_
            refine sf_istore (i := 5) (lv' := [(5, .int (0 : Int32)), (4, .int r4), (0, .ref (q 27)), (1, .ref (q 1)), (2, .ref (q 22)), (3, .int u0)]) X dX3_place_54 (by decide) rfl rfl ?_
            refine sf_loc (lv' := [(0, .ref (q 27)), (1, .ref (q 1)), (2, .ref (q 22)), (3, .int u0), (4, .int r4), (5, .int (0 : Int32))]) [2, 3, 4, 5, 1, 0] rfl ?_
            exact h
        · have h := sf_iff c6 h
          exact sf_retv X h dX3_place_34
      · have h := sf_iff c1 h
        refine sf_aload_n (i := 0) (j := 0) X dX3_place_8 rfl rfl rfl ?_
        refine sf_aload_n (i := 1) (j := 1) X dX3_place_9 rfl rfl rfl ?_
        refine sf_aload_n (i := 2) (j := 2) X dX3_place_10 rfl rfl rfl ?_
        obtain ⟨τ12, hR11, h⟩ := h
        refine sf_callVv (As := [.ref (q 1), .ref (q 22)]) (rest := []) (cv := (RX3, TX3, 5)) X rfl rfl (c_X3_weigh_2 hq hR11) (cwV 2 X.1.2.2.2.2 (sf_gV tw_441 tw_443 tw_5 tw_44 tw_444) rfl rfl rfl ⟨rfl, hd_X3_weigh⟩ ⟨sf_rmPf0 (by decide), sf_rmPl0 (by decide)⟩) rfl rfl (Nat.le_of_ble_eq_true rfl) dX3_place_11 rfl ?_
        exact sf_retv X h dX3_place_14
  | 1, h =>
      replace h := fe_R_X3_place_1 h
      unfold tr_R_X3_place_1 at h
      show sf_G p l e (headSpec wsX3_place (sf_rmP (d + 1))).room s m args below meth c (sf_Qv D vwCl q dA KX (sf_EX q tv ta tb) below args s τ) 6 D vwCl q dA KX σ 56 [(0, .ref (q 27)), (1, .ref (q 1)), (2, .ref (q 22)), (3, .int u0), (4, .int u1), (5, .int u2)] []
      refine sf_iload (i := 5) (j := 5) X dX3_place_56 rfl rfl ?_
      refine sf_aload_n (i := 1) (j := 1) X dX3_place_58 rfl rfl rfl ?_
      refine sf_getI (C := RX0) (T := TX0) (N := 10) (ci := 0) (j := 3) X (fun w h => sf_memc (inX0 w h)) rfl rfl (by decide) (X.1.2.2.2.2 _ (sf_memc tw_84)) (fun _ h9 => h9) rfl dX3_place_59 rfl ?_
      refine sf_icmp_ge (tgt := 137) X dX3_place_62 rfl rfl (fun c13 => ?_) (fun c13 => ?_)
      · have h := sf_ift c13 h
        exact sf_retv X h dX3_place_137
      · have h := sf_iff c13 h
        refine sf_aload_n (i := 0) (j := 0) X dX3_place_65 rfl rfl rfl ?_
        refine sf_getR (C := RX3) (T := TX3) (N := 5) (ci := 3) (j := 2) (k' := 32) X (fun w h => sf_memc (inX3 w h)) rfl rfl (by decide) (X.1.2.2.2.2 _ (sf_memc tw_173)) (fun _ h9 => h9) rfl dX3_place_66 rfl ?_
        refine sf_getR (C := RX2) (T := TX2) (N := 2) (ci := 2) (j := 1) (k' := 34) X (fun w h => sf_memc (inX2 w h)) rfl rfl (by decide) (X.1.2.2.2.2 _ (sf_memc tw_162)) (fun _ h9 => h9) rfl dX3_place_69 rfl ?_
        refine sf_iload (i := 5) (j := 5) X dX3_place_72 rfl rfl ?_
        obtain ⟨b14, h⟩ := h
        refine sf_iald X rfl b14 dX3_place_74 rfl ?_
        refine sf_iconst (v := (-1)) X dX3_place_75 sf_ic_m1 rfl ?_
        refine sf_icmp_ne (tgt := 131) X dX3_place_76 rfl rfl (fun c15 => ?_) (fun c15 => ?_)
        · have h := sf_iff c15 h
          refine sf_iinc (i := 5) (j := 5) (d := 1) (lv' := fun y16 => [(5, .int y16), (0, .ref (q 27)), (1, .ref (q 1)), (2, .ref (q 22)), (3, .int u0), (4, .int u1)]) X dX3_place_131 rfl sf_ic_1 (by decide) (fun _ => rfl) rfl (fun y16 hy16 => ?_)
          have h := h y16 hy16
          refine sf_goto (tgt := 56) X dX3_place_134 rfl ?_
          refine sf_loc (lv' := [(0, .ref (q 27)), (1, .ref (q 1)), (2, .ref (q 22)), (3, .int u0), (4, .int u1), (5, .int y16)]) [1, 2, 3, 4, 5, 0] rfl ?_
          exact h
        · have h := sf_ift c15 h
          refine sf_aload_n (i := 0) (j := 0) X dX3_place_79 rfl rfl rfl ?_
          refine sf_aload_n (i := 1) (j := 1) X dX3_place_80 rfl rfl rfl ?_
          refine sf_iload (i := 5) (j := 5) X dX3_place_81 rfl rfl ?_
          refine sf_iload_n (i := 3) (j := 3) X dX3_place_83 rfl rfl rfl ?_
          obtain ⟨r19, τ18, hR17, h⟩ := h
          refine sf_callVi (As := [.ref (q 1), .int u2, .int u0]) (rest := []) (cv := (RX3, TX3, 5)) X rfl rfl (c_X3_rowOf hq hR17) (cwV 3 X.1.2.2.2.2 (sf_gV tw_473 tw_475 tw_8 tw_44 tw_476) rfl rfl rfl ⟨rfl, hd_X3_rowOf⟩ ⟨sf_rmPf0 (by decide), sf_rmPl0 (by decide)⟩) rfl rfl (Nat.le_of_ble_eq_true rfl) dX3_place_84 rfl ?_
          refine sf_iload (i := 4) (j := 4) X dX3_place_87 rfl rfl ?_
          refine sf_icmp_ne (tgt := 131) X dX3_place_89 rfl rfl (fun c20 => ?_) (fun c20 => ?_)
          · have h := sf_iff c20 h
            refine sf_iinc (i := 5) (j := 5) (d := 1) (lv' := fun y21 => [(5, .int y21), (0, .ref (q 27)), (1, .ref (q 1)), (2, .ref (q 22)), (3, .int u0), (4, .int u1)]) X dX3_place_131 rfl sf_ic_1 (by decide) (fun _ => rfl) rfl (fun y21 hy21 => ?_)
            have h := h y21 hy21
            refine sf_goto (tgt := 56) X dX3_place_134 rfl ?_
            refine sf_loc (lv' := [(0, .ref (q 27)), (1, .ref (q 1)), (2, .ref (q 22)), (3, .int u0), (4, .int u1), (5, .int y21)]) [1, 2, 3, 4, 5, 0] rfl ?_
            exact h
          · have h := sf_ift c20 h
            refine sf_aload_n (i := 0) (j := 0) X dX3_place_92 rfl rfl rfl ?_
            refine sf_getR (C := RX3) (T := TX3) (N := 5) (ci := 3) (j := 2) (k' := 32) X (fun w h => sf_memc (inX3 w h)) rfl rfl (by decide) (X.1.2.2.2.2 _ (sf_memc tw_173)) (fun _ h9 => h9) rfl dX3_place_93 rfl ?_
            refine sf_iload (i := 5) (j := 5) X dX3_place_96 rfl rfl ?_
            refine sf_iload_n (i := 3) (j := 3) X dX3_place_98 rfl rfl rfl ?_
            obtain ⟨τ23, hR22, h⟩ := h
            refine sf_callVv (As := [.int u2, .int u0]) (rest := []) (cv := (RX2, TX2, 2)) X rfl rfl (c_X2_give hq hR22) (cwV 2 X.1.2.2.2.2 (sf_gV tw_483 tw_484 tw_485 tw_45 tw_486) rfl rfl rfl ⟨rfl, hd_X2_give⟩ ⟨sf_rmPf0 (by decide), sf_rmPl0 (by decide)⟩) rfl rfl (Nat.le_of_ble_eq_true rfl) dX3_place_99 rfl ?_
            refine sf_aload_n (i := 0) (j := 0) X dX3_place_102 rfl rfl rfl ?_
            refine sf_aload_n (i := 1) (j := 1) X dX3_place_103 rfl rfl rfl ?_
            refine sf_aload_n (i := 2) (j := 2) X dX3_place_104 rfl rfl rfl ?_
            refine sf_iload_n (i := 3) (j := 3) X dX3_place_105 rfl rfl rfl ?_
            refine sf_iconst (v := 1) X dX3_place_106 sf_ic_1 rfl ?_
            refine sf_iadd X dX3_place_107 rfl ?_
            obtain ⟨τ25, hR24, h⟩ := h
            refine sf_callVv (As := [.ref (q 1), .ref (q 22), .int (u0 + (1 : Int32))]) (rest := []) (cv := (RX3, TX3, 5)) X rfl rfl (hRc hR24) (cwV 3 X.1.2.2.2.2 (sf_gV tw_437 tw_439 tw_4 tw_44 tw_440) rfl rfl rfl ⟨rfl, hd_X3_place⟩ ⟨sf_rmPf, sf_rmPl⟩) rfl rfl (Nat.le_of_ble_eq_true rfl) dX3_place_108 rfl ?_
            refine sf_aload_n (i := 0) (j := 0) X dX3_place_111 rfl rfl rfl ?_
            refine sf_getR (C := RX3) (T := TX3) (N := 5) (ci := 3) (j := 2) (k' := 32) X (fun w h => sf_memc (inX3 w h)) rfl rfl (by decide) (X.1.2.2.2.2 _ (sf_memc tw_173)) (fun _ h9 => h9) rfl dX3_place_112 rfl ?_
            refine sf_iload (i := 5) (j := 5) X dX3_place_115 rfl rfl ?_
            refine sf_iload_n (i := 3) (j := 3) X dX3_place_117 rfl rfl rfl ?_
            obtain ⟨τ27, hR26, h⟩ := h
            refine sf_callVv (As := [.int u2, .int u0]) (rest := []) (cv := (RX2, TX2, 2)) X rfl rfl (c_X2_takeBack hq hR26) (cwV 2 X.1.2.2.2.2 (sf_gV tw_487 tw_488 tw_489 tw_45 tw_490) rfl rfl rfl ⟨rfl, hd_X2_takeBack⟩ ⟨sf_rmPf0 (by decide), sf_rmPl0 (by decide)⟩) rfl rfl (Nat.le_of_ble_eq_true rfl) dX3_place_118 rfl ?_
            refine sf_aload_n (i := 1) (j := 1) X dX3_place_121 rfl rfl rfl ?_
            refine sf_iload (i := 5) (j := 5) X dX3_place_122 rfl rfl ?_
            obtain ⟨r30, τ29, hR28, h⟩ := h
            refine sf_callVi (As := [.int u2]) (rest := []) (cv := (RX0, TX0, 10)) X rfl rfl (c_X0_isAlone hq hR28) (cwV 1 X.1.2.2.2.2 (sf_gV tw_491 tw_492 tw_493 tw_42 tw_494) rfl rfl rfl ⟨rfl, hd_X0_isAlone⟩ ⟨sf_rmPf0 (by decide), sf_rmPl0 (by decide)⟩) rfl rfl (Nat.le_of_ble_eq_true rfl) dX3_place_124 rfl ?_
            refine sf_if_eq (tgt := 131) X dX3_place_127 rfl rfl (fun c31 => ?_) (fun c31 => ?_)
            · have h := sf_ift c31 h
              refine sf_iinc (i := 5) (j := 5) (d := 1) (lv' := fun y32 => [(5, .int y32), (0, .ref (q 27)), (1, .ref (q 1)), (2, .ref (q 22)), (3, .int u0), (4, .int u1)]) X dX3_place_131 rfl sf_ic_1 (by decide) (fun _ => rfl) rfl (fun y32 hy32 => ?_)
              have h := h y32 hy32
              refine sf_goto (tgt := 56) X dX3_place_134 rfl ?_
              refine sf_loc (lv' := [(0, .ref (q 27)), (1, .ref (q 1)), (2, .ref (q 22)), (3, .int u0), (4, .int u1), (5, .int y32)]) [1, 2, 3, 4, 5, 0] rfl ?_
              exact h
            · have h := sf_iff c31 h
              exact sf_retv X h dX3_place_130
  | (_ + 2), _ => exact trivial
theorem c_X3_place_2 {l : Launch} {D : va_G} {q : Nat → Nat} {dA : Nat → ClassId} {tv ta tb : Nat} (hq : sf_inj q KX) : ∀ (d : Nat) {σ τ : sf_St} {i : Int32}, R_X3_placeD 23 24 25 26 d σ i τ → sf_Mv l yX3_place wsX3_place (sf_rmP d) D vwCl q dA KX (sf_EX q tv ta tb) [.ref (q 27), .ref (q 1), .ref (q 22), .int i] σ τ := by
  intro d
  induction d with
  | zero => intro σ τ i h; exact h.elim
  | succ d ih => intro σ τ i h; exact c_X3_place_2_o hq (fun h => ih h) h
