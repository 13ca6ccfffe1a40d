def R_X6_hydrogens (σ : sf_St) (u0 : Int32) (r : Int32) (τ : sf_St) : Prop :=
  ∃ (r3 : Int32) (τ2 : sf_St), R_X0_hasAtom σ u0 r3 τ2 ∧ (if r3 = (0 : Int32) then (r = (-1 : Int32) ∧ τ = τ2) else (∃ (r7 : Int32) (τ6 : sf_St), R_X0_freeValence τ2 u0 r7 τ6 ∧ (r = r7 ∧ τ = τ6)))
set_option maxHeartbeats 4000000 in
set_option maxRecDepth 100000 in
theorem c_X6_hydrogens {l : Launch} {D : va_G} {q : Nat → Nat} {dA : Nat → ClassId} {tv ta tb : Nat} (hq : sf_inj q KX) {σ τ : sf_St} {u0 : Int32} {r : Int32} (h : R_X6_hydrogens σ u0 r τ) : sf_Mi l yX6_hydrogens wsX6_hydrogens ({ frames := 2, cells := 0, slots := 0, locals := 46 }) D vwCl q dA KX (sf_EX q tv ta tb) [.ref (q 0), .int u0] σ r τ := by
  refine sf_meti (cc := cX6_hydrogens) (maxL := 2) (ret := (some .int)) (own := RX6) (by decide +kernel) rfl rfl hq sf_EXk (Nat.le_of_ble_eq_true rfl) ?_
  intro p e s m args below meth c X
  have hT := X.2.2.2.1.2.1
  unfold R_X6_hydrogens at h
  refine sf_loc (lv' := [(0, .ref (q 0)), (1, .int u0)]) [0, 1] rfl ?_
  refine sf_aload_n (i := 0) (j := 0) X dX6_hydrogens_0 rfl rfl rfl ?_
  refine sf_getR (C := RX6) (T := TX6) (N := 11) (ci := 6) (j := 0) (k' := 1) X (fun w h => sf_memc (inX6 w h)) rfl rfl (by decide) (X.1.2.2.2.2 _ (sf_memc tw_224)) (fun _ h9 => h9) rfl dX6_hydrogens_1 rfl ?_
  refine sf_iload_n (i := 1) (j := 1) X dX6_hydrogens_4 rfl rfl rfl ?_
  obtain ⟨r3, τ2, hR1, h⟩ := h
  refine sf_callVi (As := [.int u0]) (rest := []) (cv := (RX0, TX0, 10)) X rfl rfl (c_X0_hasAtom hq hR1) (cwV 1 X.1.2.2.2.2 (sf_gV tw_275 tw_276 tw_277 tw_42 tw_278) rfl rfl rfl ⟨rfl, hd_X0_hasAtom⟩ ⟨Nat.le_of_ble_eq_true rfl, Nat.le_of_ble_eq_true rfl⟩) rfl rfl (Nat.le_of_ble_eq_true rfl) dX6_hydrogens_5 rfl ?_
  refine sf_if_eq (tgt := 22) X dX6_hydrogens_8 rfl rfl (fun c4 => ?_) (fun c4 => ?_)
  · have h := sf_ift c4 h
    refine sf_iconst (v := (-1)) X dX6_hydrogens_22 sf_ic_m1 rfl ?_
    exact sf_reti X h dX6_hydrogens_23
  · have h := sf_iff c4 h
    refine sf_aload_n (i := 0) (j := 0) X dX6_hydrogens_11 rfl rfl rfl ?_
    refine sf_getR (C := RX6) (T := TX6) (N := 11) (ci := 6) (j := 0) (k' := 1) X (fun w h => sf_memc (inX6 w h)) rfl rfl (by decide) (X.1.2.2.2.2 _ (sf_memc tw_224)) (fun _ h9 => h9) rfl dX6_hydrogens_12 rfl ?_
    refine sf_iload_n (i := 1) (j := 1) X dX6_hydrogens_15 rfl rfl rfl ?_
    obtain ⟨r7, τ6, hR5, h⟩ := h
    refine sf_callVi (As := [.int u0]) (rest := []) (cv := (RX0, TX0, 10)) X rfl rfl (c_X0_freeValence hq hR5) (cwV 1 X.1.2.2.2.2 (sf_gV tw_286 tw_287 tw_288 tw_42 tw_289) rfl rfl rfl ⟨rfl, hd_X0_freeValence⟩ ⟨Nat.le_of_ble_eq_true rfl, Nat.le_of_ble_eq_true rfl⟩) rfl rfl (Nat.le_of_ble_eq_true rfl) dX6_hydrogens_16 rfl ?_
    refine sf_goto (tgt := 23) X dX6_hydrogens_19 rfl ?_
    exact sf_reti X h dX6_hydrogens_23
def tr_R_X0_singleBonds_0 (Pr : Nat → sf_St → Int32 → Int32 → Int32 → Int32 → Prop) (r : Int32) (τ : sf_St) (σ : sf_St) (u0 u1 u2 u3 : Int32) : Prop :=
  Pr 1 σ u0 u1 (0 : Int32) (0 : Int32)
def tr_R_X0_singleBonds_1 (Pr : Nat → sf_St → Int32 → Int32 → Int32 → Int32 → Prop) (r : Int32) (τ : sf_St) (σ : sf_St) (u0 u1 u2 u3 : Int32) : Prop :=
  if (σ 1 3) ≤ u3 then (r = u2 ∧ τ = σ) else (if u3 = u1 then (if (0 : Int32) ≤ (1 : Int32) then (∀ y10 : Int32, y10 = (u2 + (0 : Int32)) → (∀ y11 : Int32, y11 = u3 + (1 : Int32) → (Pr 1 σ u0 u1 y10 y11))) else (r = (-1 : Int32) ∧ τ = σ)) else (∃ (r5 : Int32) (τ4 : sf_St), R_X0_orderOf σ u0 u3 r5 τ4 ∧ (if r5 ≤ (1 : Int32) then (∀ y7 : Int32, y7 = (u2 + r5) → (∀ y8 : Int32, y8 = u3 + (1 : Int32) → (Pr 1 τ4 u0 u1 y7 y8))) else (r = (-1 : Int32) ∧ τ = τ4))))
def fn_R_X0_singleBonds (Pr : Nat → sf_St → Int32 → Int32 → Int32 → Int32 → Prop) (r : Int32) (τ : sf_St) (t : Nat) (σ : sf_St) (u0 u1 u2 u3 : Int32) : Prop := match t with
  | 0 => tr_R_X0_singleBonds_0 Pr r τ σ u0 u1 u2 u3
  | 1 => tr_R_X0_singleBonds_1 Pr r τ σ u0 u1 u2 u3
  | _ => False
def Rn_R_X0_singleBonds (t : Nat) (σ : sf_St) (u0 u1 u2 u3 : Int32) (r : Int32) (τ : sf_St) : Prop := ∀ Pr : Nat → sf_St → Int32 → Int32 → Int32 → Int32 → Prop, (∀ (t : Nat) (σ : sf_St) (u0 u1 u2 u3 : Int32), fn_R_X0_singleBonds Pr r τ t σ u0 u1 u2 u3 → Pr t σ u0 u1 u2 u3) → Pr t σ u0 u1 u2 u3
def R_X0_singleBonds (σ : sf_St) (u0 u1 : Int32) (r : Int32) (τ : sf_St) : Prop := Rn_R_X0_singleBonds 0 σ u0 u1 0 0 r τ
theorem fe_R_X0_singleBonds_0 {Pr : Nat → sf_St → Int32 → Int32 → Int32 → Int32 → Prop} {r : Int32} {τ σ : sf_St} {u0 u1 u2 u3 : Int32} (h : fn_R_X0_singleBonds Pr r τ 0 σ u0 u1 u2 u3) : tr_R_X0_singleBonds_0 Pr r τ σ u0 u1 u2 u3 := h
theorem mo_R_X0_singleBonds_0 {Pr Pr' : Nat → sf_St → Int32 → Int32 → Int32 → Int32 → Prop} {r : Int32} {τ σ : sf_St} {u0 u1 u2 u3 : Int32} (hP : ∀ (t : Nat) (σ : sf_St) (u0 u1 u2 u3 : Int32), Pr t σ u0 u1 u2 u3 → Pr' t σ u0 u1 u2 u3) (h : tr_R_X0_singleBonds_0 Pr r τ σ u0 u1 u2 u3) : tr_R_X0_singleBonds_0 Pr' r τ σ u0 u1 u2 u3 := by
  unfold tr_R_X0_singleBonds_0 at h ⊢
  exact hP _ _ _ _ _ _ h
theorem ru_R_X0_singleBonds_0 {r : Int32} {τ σ : sf_St} {u0 u1 u2 u3 : Int32} (h : tr_R_X0_singleBonds_0 (fun t σ u0 u1 u2 u3 => Rn_R_X0_singleBonds t σ u0 u1 u2 u3 r τ) r τ σ u0 u1 u2 u3) : Rn_R_X0_singleBonds 0 σ u0 u1 u2 u3 r τ := fun Pr hP => hP 0 σ u0 u1 u2 u3 (mo_R_X0_singleBonds_0 (fun _ _ _ _ _ _ h => h Pr hP) h)
theorem fe_R_X0_singleBonds_1 {Pr : Nat → sf_St → Int32 → Int32 → Int32 → Int32 → Prop} {r : Int32} {τ σ : sf_St} {u0 u1 u2 u3 : Int32} (h : fn_R_X0_singleBonds Pr r τ 1 σ u0 u1 u2 u3) : tr_R_X0_singleBonds_1 Pr r τ σ u0 u1 u2 u3 := h
theorem mo_R_X0_singleBonds_1 {Pr Pr' : Nat → sf_St → Int32 → Int32 → Int32 → Int32 → Prop} {r : Int32} {τ σ : sf_St} {u0 u1 u2 u3 : Int32} (hP : ∀ (t : Nat) (σ : sf_St) (u0 u1 u2 u3 : Int32), Pr t σ u0 u1 u2 u3 → Pr' t σ u0 u1 u2 u3) (h : tr_R_X0_singleBonds_1 Pr r τ σ u0 u1 u2 u3) : tr_R_X0_singleBonds_1 Pr' r τ σ u0 u1 u2 u3 := by
  unfold tr_R_X0_singleBonds_1 at h ⊢
  refine sf_mif (fun h => ?_) (fun h => ?_) h
  · exact h
  · refine sf_mif (fun h => ?_) (fun h => ?_) h
    · refine sf_mif (fun h => ?_) (fun h => ?_) h
      · intro y10 hy10
        have h := h y10 hy10
        intro y11 hy11
        have h := h y11 hy11
        exact hP _ _ _ _ _ _ h
      · exact h
    · refine Exists.imp (fun _ h => Exists.imp (fun _ h => And.imp id (fun h => ?_) h) h) h
      refine sf_mif (fun h => ?_) (fun h => ?_) h
      · intro y7 hy7
        have h := h y7 hy7
        intro y8 hy8
        have h := h y8 hy8
        exact hP _ _ _ _ _ _ h
      · exact h
theorem ru_R_X0_singleBonds_1 {r : Int32} {τ σ : sf_St} {u0 u1 u2 u3 : Int32} (h : tr_R_X0_singleBonds_1 (fun t σ u0 u1 u2 u3 => Rn_R_X0_singleBonds t σ u0 u1 u2 u3 r τ) r τ σ u0 u1 u2 u3) : Rn_R_X0_singleBonds 1 σ u0 u1 u2 u3 r τ := fun Pr hP => hP 1 σ u0 u1 u2 u3 (mo_R_X0_singleBonds_1 (fun _ _ _ _ _ _ h => h Pr hP) h)
set_option maxHeartbeats 4000000 in
set_option maxRecDepth 100000 in
theorem c_X0_singleBonds {l : Launch} {D : va_G} {q : Nat → Nat} {dA : Nat → ClassId} {tv ta tb : Nat} (hq : sf_inj q KX) {σ τ : sf_St} {u0 u1 : Int32} {r : Int32} (h : R_X0_singleBonds σ u0 u1 r τ) : sf_Mi l yX0_singleBonds wsX0_singleBonds ({ frames := 1, cells := 0, slots := 0, locals := 23 }) D vwCl q dA KX (sf_EX q tv ta tb) [.ref (q 1), .int u0, .int u1] σ r τ := by
  refine sf_meti (cc := cX0_singleBonds) (maxL := 6) (ret := (some .int)) (own := RX0) (by decide +kernel) rfl rfl hq sf_EXk (Nat.le_of_ble_eq_true rfl) ?_
  intro p e s m args below meth c X
  have hT := X.2.2.2.1.2.1
  refine sf_loc (lv' := [(0, .ref (q 1)), (1, .int u0), (2, .int u1)]) [0, 1, 2] rfl ?_
  refine h (fun t σ u0 u1 u2 u3 => match t with
    | 0 => sf_G p l e (headSpec wsX0_singleBonds ({ frames := 1, cells := 0, slots := 0, locals := 23 })).room s m args below meth c (sf_Qi D vwCl q dA KX (sf_EX q tv ta tb) below args s r τ) 6 D vwCl q dA KX σ 0 [(0, .ref (q 1)), (1, .int u0), (2, .int u1)] []
    | 1 => sf_G p l e (headSpec wsX0_singleBonds ({ frames := 1, cells := 0, slots := 0, locals := 23 })).room s m args below meth c (sf_Qi D vwCl q dA KX (sf_EX q tv ta tb) below args s r τ) 6 D vwCl q dA KX σ 5 [(0, .ref (q 1)), (1, .int u0), (2, .int u1), (3, .int u2), (4, .int u3)] []
    | _ => True) ?_
  intro t σ u0 u1 u2 u3 h
  match t, h with
  | 0, h =>
      replace h := fe_R_X0_singleBonds_0 h
      unfold tr_R_X0_singleBonds_0 at h
      show sf_G p l e (headSpec wsX0_singleBonds ({ frames := 1, cells := 0, slots := 0, locals := 23 })).room s m args below meth c (sf_Qi D vwCl q dA KX (sf_EX q tv ta tb) below args s r τ) 6 D vwCl q dA KX σ 0 [(0, .ref (q 1)), (1, .int u0), (2, .int u1)] []
      refine sf_iconst (v := 0) X dX0_singleBonds_0 sf_ic_0 rfl ?_
      refine sf_istore_n (i := 3) (lv' := [(3, .int (0 : Int32)), (0, .ref (q 1)), (1, .int u0), (2, .int u1)]) X dX0_singleBonds_1 rfl (by decide) rfl rfl ?_
      refine sf_iconst (v := 0) X dX0_singleBonds_2 sf_ic_0 rfl ?_
      refine sf_istore (i := 4) (lv' := [(4, .int (0 : Int32)), (3, .int (0 : Int32)), (0, .ref (q 1)), (1, .int u0), (2, .int u1)]) X dX0_singleBonds_3 (by decide) rfl rfl ?_
      refine sf_loc (lv' := [(0, .ref (q 1)), (1, .int u0), (2, .int u1), (3, .int (0 : Int32)), (4, .int (0 : Int32))]) [2, 3, 4, 1, 0] rfl ?_
      exact h
  | 1, h =>
      replace h := fe_R_X0_singleBonds_1 h
      unfold tr_R_X0_singleBonds_1 at h
      show sf_G p l e (headSpec wsX0_singleBonds ({ frames := 1, cells := 0, slots := 0, locals := 23 })).room s m args below meth c (sf_Qi D vwCl q dA KX (sf_EX q tv ta tb) below args s r τ) 6 D vwCl q dA KX σ 5 [(0, .ref (q 1)), (1, .int u0), (2, .int u1), (3, .int u2), (4, .int u3)] []
      refine sf_iload (i := 4) (j := 4) X dX0_singleBonds_5 rfl rfl ?_
      refine sf_aload_n (i := 0) (j := 0) X dX0_singleBonds_7 rfl rfl rfl ?_
      refine sf_getI (C := RX0) (T := TX0) (N := 10) (ci := 0) (j := 3) X (fun w h => sf_memc (inX0 w h)) rfl rfl (by decide) (X.1.2.2.2.2 _ (sf_memc tw_81)) (fun _ h9 => h9) rfl dX0_singleBonds_8 rfl ?_
      refine sf_icmp_ge (tgt := 52) X dX0_singleBonds_11 rfl rfl (fun c1 => ?_) (fun c1 => ?_)
      · have h := sf_ift c1 h
        refine sf_iload_n (i := 3) (j := 3) X dX0_singleBonds_52 rfl rfl rfl ?_
        exact sf_reti X h dX0_singleBonds_53
      · have h := sf_iff c1 h
        refine sf_iload (i := 4) (j := 4) X dX0_singleBonds_14 rfl rfl ?_
        refine sf_iload_n (i := 2) (j := 2) X dX0_singleBonds_16 rfl rfl rfl ?_
        refine sf_icmp_ne (tgt := 24) X dX0_singleBonds_17 rfl rfl (fun c2 => ?_) (fun c2 => ?_)
        · have h := sf_iff c2 h
          refine sf_aload_n (i := 0) (j := 0) X dX0_singleBonds_24 rfl rfl rfl ?_
          refine sf_iload_n (i := 1) (j := 1) X dX0_singleBonds_25 rfl rfl rfl ?_
          refine sf_iload (i := 4) (j := 4) X dX0_singleBonds_26 rfl rfl ?_
          obtain ⟨r5, τ4, hR3, h⟩ := h
          refine sf_callVi (As := [.int u0, .int u3]) (rest := []) (cv := (RX0, TX0, 10)) X rfl rfl (c_X0_orderOf hq hR3) (cwV 2 X.1.2.2.2.2 (sf_gV tw_291 tw_292 tw_293 tw_42 tw_294) rfl rfl rfl ⟨rfl, hd_X0_orderOf⟩ ⟨Nat.le_of_ble_eq_true rfl, Nat.le_of_ble_eq_true rfl⟩) rfl rfl (Nat.le_of_ble_eq_true rfl) dX0_singleBonds_28 rfl ?_
          refine sf_istore (i := 5) (lv' := [(5, .int r5), (0, .ref (q 1)), (1, .int u0), (2, .int u1), (3, .int u2), (4, .int u3)]) X dX0_singleBonds_31 (by decide) rfl rfl ?_
          refine sf_iload (i := 5) (j := 0) X dX0_singleBonds_33 rfl rfl ?_
          refine sf_iconst (v := 1) X dX0_singleBonds_35 sf_ic_1 rfl ?_
          refine sf_icmp_le (tgt := 41) X dX0_singleBonds_36 rfl rfl (fun c6 => ?_) (fun c6 => ?_)
          · have h := sf_ift c6 h
            refine sf_iload_n (i := 3) (j := 4) X dX0_singleBonds_41 rfl rfl rfl ?_
            refine sf_iload (i := 5) (j := 0) X dX0_singleBonds_42 rfl rfl ?_
            refine sf_iadd X dX0_singleBonds_44 rfl ?_
            refine sf_top (fun y7 hy7 => ?_)
            have h := h y7 hy7
            refine sf_istore_n (i := 3) (lv' := [(3, .int y7), (5, .int r5), (0, .ref (q 1)), (1, .int u0), (2, .int u1), (4, .int u3)]) X dX0_singleBonds_45 rfl (by decide) rfl rfl ?_
            refine sf_iinc (i := 4) (j := 5) (d := 1) (lv' := fun y8 => [(4, .int y8), (3, .int y7), (5, .int r5), (0, .ref (q 1)), (1, .int u0), (2, .int u1)]) X dX0_singleBonds_46 rfl sf_ic_1 (by decide) (fun _ => rfl) rfl (fun y8 hy8 => ?_)
            have h := h y8 hy8
            refine sf_goto (tgt := 5) X dX0_singleBonds_49 rfl ?_
            refine sf_loc (lv' := [(0, .ref (q 1)), (1, .int u0), (2, .int u1), (3, .int y7), (4, .int y8)]) [3, 4, 5, 1, 0] rfl ?_
            exact h
          · have h := sf_iff c6 h
            refine sf_iconst (v := (-1)) X dX0_singleBonds_39 sf_ic_m1 rfl ?_
            exact sf_reti X h dX0_singleBonds_40
        · have h := sf_ift c2 h
          refine sf_iconst (v := 0) X dX0_singleBonds_20 sf_ic_0 rfl ?_
          refine sf_goto (tgt := 31) X dX0_singleBonds_21 rfl ?_
          refine sf_istore (i := 5) (lv' := [(5, .int (0 : Int32)), (0, .ref (q 1)), (1, .int u0), (2, .int u1), (3, .int u2), (4, .int u3)]) X dX0_singleBonds_31 (by decide) rfl rfl ?_
          refine sf_iload (i := 5) (j := 0) X dX0_singleBonds_33 rfl rfl ?_
          refine sf_iconst (v := 1) X dX0_singleBonds_35 sf_ic_1 rfl ?_
          refine sf_icmp_le (tgt := 41) X dX0_singleBonds_36 rfl rfl (fun c9 => ?_) (fun c9 => ?_)
          · have h := sf_ift c9 h
            refine sf_iload_n (i := 3) (j := 4) X dX0_singleBonds_41 rfl rfl rfl ?_
            refine sf_iload (i := 5) (j := 0) X dX0_singleBonds_42 rfl rfl ?_
            refine sf_iadd X dX0_singleBonds_44 rfl ?_
            refine sf_top (fun y10 hy10 => ?_)
            have h := h y10 hy10
            refine sf_istore_n (i := 3) (lv' := [(3, .int y10), (5, .int (0 : Int32)), (0, .ref (q 1)), (1, .int u0), (2, .int u1), (4, .int u3)]) X dX0_singleBonds_45 rfl (by decide) rfl rfl ?_
            refine sf_iinc (i := 4) (j := 5) (d := 1) (lv' := fun y11 => [(4, .int y11), (3, .int y10), (5, .int (0 : Int32)), (0, .ref (q 1)), (1, .int u0), (2, .int u1)]) X dX0_singleBonds_46 rfl sf_ic_1 (by decide) (fun _ => rfl) rfl (fun y11 hy11 => ?_)
            have h := h y11 hy11
            refine sf_goto (tgt := 5) X dX0_singleBonds_49 rfl ?_
            refine sf_loc (lv' := [(0, .ref (q 1)), (1, .int u0), (2, .int u1), (3, .int y10), (4, .int y11)]) [3, 4, 5, 1, 0] rfl ?_
            exact h
          · have h := sf_iff c9 h
            refine sf_iconst (v := (-1)) X dX0_singleBonds_39 sf_ic_m1 rfl ?_
            exact sf_reti X h dX0_singleBonds_40
  | (_ + 2), _ => exact trivial
def R_X0_isCentre (σ : sf_St) (u0 : Int32) (r : Int32) (τ : sf_St) : Prop :=
  ∃ (r3 : Int32) (τ2 : sf_St), R_X0_singleBonds σ u0 (-1 : Int32) r3 τ2 ∧ (vp_in u0 7 ∧ (if (τ2 2 (sf_ix u0)) = (0 : Int32) then (if r3 = (3 : Int32) then (r = (1 : Int32) ∧ τ = τ2) else (if r3 = (4 : Int32) then (r = (1 : Int32) ∧ τ = τ2) else (r = (0 : Int32) ∧ τ = τ2))) else (r = (0 : Int32) ∧ τ = τ2)))
set_option maxHeartbeats 4000000 in
set_option maxRecDepth 100000 in
theorem c_X0_isCentre {l : Launch} {D : va_G} {q : Nat → Nat} {dA : Nat → ClassId} {tv ta tb : Nat} (hq : sf_inj q KX) {σ τ : sf_St} {u0 : Int32} {r : Int32} (h : R_X0_isCentre σ u0 r τ) : sf_Mi l yX0_isCentre wsX0_isCentre ({ frames := 2, cells := 0, slots := 0, locals := 48 }) D vwCl q dA KX (sf_EX q tv ta tb) [.ref (q 1), .int u0] σ r τ := by
  refine sf_meti (cc := cX0_isCentre) (maxL := 3) (ret := (some .boolean)) (own := RX0) (by decide +kernel) rfl rfl hq sf_EXk (Nat.le_of_ble_eq_true rfl) ?_
  intro p e s m args below meth c X
  have hT := X.2.2.2.1.2.1
  unfold R_X0_isCentre at h
  refine sf_loc (lv' := [(0, .ref (q 1)), (1, .int u0)]) [0, 1] rfl ?_
  refine sf_aload_n (i := 0) (j := 0) X dX0_isCentre_0 rfl rfl rfl ?_
  refine sf_iload_n (i := 1) (j := 1) X dX0_isCentre_1 rfl rfl rfl ?_
  refine sf_iconst (v := (-1)) X dX0_isCentre_2 sf_ic_m1 rfl ?_
  obtain ⟨r3, τ2, hR1, h⟩ := h
  refine sf_callVi (As := [.int u0, .int (-1 : Int32)]) (rest := []) (cv := (RX0, TX0, 10)) X rfl rfl (c_X0_singleBonds hq hR1) (cwV 2 X.1.2.2.2.2 (sf_gV tw_354 tw_356 tw_0 tw_42 tw_357) rfl rfl rfl ⟨rfl, hd_X0_singleBonds⟩ ⟨Nat.le_of_ble_eq_true rfl, Nat.le_of_ble_eq_true rfl⟩) rfl rfl (Nat.le_of_ble_eq_true rfl) dX0_isCentre_3 rfl ?_
  refine sf_istore_n (i := 2) (lv' := [(2, .int r3), (0, .ref (q 1)), (1, .int u0)]) X dX0_isCentre_6 rfl (by decide) rfl rfl ?_
  refine sf_aload_n (i := 0) (j := 1) X dX0_isCentre_7 rfl rfl rfl ?_
  refine sf_getR (C := RX0) (T := TX0) (N := 10) (ci := 0) (j := 0) (k' := 2) X (fun w h => sf_memc (inX0 w h)) rfl rfl (by decide) (X.1.2.2.2.2 _ (sf_memc tw_72)) (fun _ h9 => h9) rfl dX0_isCentre_8 rfl ?_
  refine sf_iload_n (i := 1) (j := 2) X dX0_isCentre_11 rfl rfl rfl ?_
  obtain ⟨b4, h⟩ := h
  refine sf_iald X rfl b4 dX0_isCentre_12 rfl ?_
  refine sf_if_ne (tgt := 30) X dX0_isCentre_13 rfl rfl (fun c5 => ?_) (fun c5 => ?_)
  · have h := sf_iff c5 h
    refine sf_iconst (v := 0) X dX0_isCentre_30 sf_ic_0 rfl ?_
    exact sf_retz X h rfl dX0_isCentre_31
  · have h := sf_ift c5 h
    refine sf_iload_n (i := 2) (j := 0) X dX0_isCentre_16 rfl rfl rfl ?_
    refine sf_iconst (v := 3) X dX0_isCentre_17 sf_ic_3 rfl ?_
    refine sf_icmp_eq (tgt := 26) X dX0_isCentre_18 rfl rfl (fun c6 => ?_) (fun c6 => ?_)
    · have h := sf_ift c6 h
      refine sf_iconst (v := 1) X dX0_isCentre_26 sf_ic_1 rfl ?_
      refine sf_goto (tgt := 31) X dX0_isCentre_27 rfl ?_
      exact sf_retz X h rfl dX0_isCentre_31
    · have h := sf_iff c6 h
      refine sf_iload_n (i := 2) (j := 0) X dX0_isCentre_21 rfl rfl rfl ?_
      refine sf_iconst (v := 4) X dX0_isCentre_22 sf_ic_4 rfl ?_
      refine sf_icmp_ne (tgt := 30) X dX0_isCentre_23 rfl rfl (fun c7 => ?_) (fun c7 => ?_)
      · have h := sf_iff c7 h
        refine sf_iconst (v := 0) X dX0_isCentre_30 sf_ic_0 rfl ?_
        exact sf_retz X h rfl dX0_isCentre_31
      · have h := sf_ift c7 h
        refine sf_iconst (v := 1) X dX0_isCentre_26 sf_ic_1 rfl ?_
        refine sf_goto (tgt := 31) X dX0_isCentre_27 rfl ?_
        exact sf_retz X h rfl dX0_isCentre_31
def R_X0_bondOf (σ : sf_St) (u0 u1 : Int32) (r : Int32) (τ : sf_St) : Prop :=
  vp_in u0 7 ∧ (vp_in u1 7 ∧ (r = ((σ (10 + sf_ix u0) (sf_ix u1)) - (1 : Int32)) ∧ τ = σ))
set_option maxHeartbeats 4000000 in
set_option maxRecDepth 100000 in
theorem c_X0_bondOf {l : Launch} {D : va_G} {q : Nat → Nat} {dA : Nat → ClassId} {tv ta tb : Nat} (hq : sf_inj q KX) {σ τ : sf_St} {u0 u1 : Int32} {r : Int32} (h : R_X0_bondOf σ u0 u1 r τ) : sf_Mi l yX0_bondOf wsX0_bondOf ({ frames := 0, cells := 0, slots := 0, locals := 0 }) D vwCl q dA KX (sf_EX q tv ta tb) [.ref (q 1), .int u0, .int u1] σ r τ := by
  refine sf_meti (cc := cX0_bondOf) (maxL := 3) (ret := (some .int)) (own := RX0) (by decide +kernel) rfl rfl hq sf_EXk (Nat.le_of_ble_eq_true rfl) ?_
  intro p e s m args below meth c X
  have hT := X.2.2.2.1.2.1
  unfold R_X0_bondOf at h
  refine sf_loc (lv' := [(0, .ref (q 1)), (1, .int u0), (2, .int u1)]) [0, 1, 2] rfl ?_
  refine sf_aload_n (i := 0) (j := 0) X dX0_bondOf_0 rfl rfl rfl ?_
  refine sf_getR (C := RX0) (T := TX0) (N := 10) (ci := 0) (j := 9) (k' := 9) X (fun w h => sf_memc (inX0 w h)) rfl rfl (by decide) (X.1.2.2.2.2 _ (sf_memc tw_99)) (fun _ h9 => h9) rfl dX0_bondOf_1 rfl ?_
  refine sf_iload_n (i := 1) (j := 1) X dX0_bondOf_4 rfl rfl rfl ?_
  obtain ⟨b1, h⟩ := h
  refine sf_aald (k' := (10 + sf_ix u0)) X rfl b1 (sf_lkR b1) dX0_bondOf_5 rfl ?_
  refine sf_iload_n (i := 2) (j := 2) X dX0_bondOf_6 rfl rfl rfl ?_
  obtain ⟨b2, h⟩ := h
  refine sf_iald X (sf_lkK b1) b2 dX0_bondOf_7 rfl ?_
  refine sf_iconst (v := 1) X dX0_bondOf_8 sf_ic_1 rfl ?_
  refine sf_isub X dX0_bondOf_9 rfl ?_
  exact sf_reti X h dX0_bondOf_10
def R_X0_height (σ : sf_St) (u0 u1 : Int32) (r : Int32) (τ : sf_St) : Prop :=
  ∃ (r3 : Int32) (τ2 : sf_St), R_X0_areBonded σ u0 u1 r3 τ2 ∧ (if r3 = (0 : Int32) then (r = (0 : Int32) ∧ τ = τ2) else (∃ (r7 : Int32) (τ6 : sf_St), R_X0_bondOf τ2 u0 u1 r7 τ6 ∧ (vp_in r7 9 ∧ (if (τ6 5 (sf_ix r7)) = u0 then (vp_in r7 9 ∧ (if (τ6 8 (sf_ix r7)) = (0 : Int32) then (r = (0 : Int32) ∧ τ = τ6) else (vp_in r7 9 ∧ (if (τ6 8 (sf_ix r7)) = (1 : Int32) then (r = (1 : Int32) ∧ τ = τ6) else (r = (-1 : Int32) ∧ τ = τ6))))) else (r = (0 : Int32) ∧ τ = τ6)))))
set_option maxHeartbeats 4000000 in
set_option maxRecDepth 100000 in
theorem c_X0_height {l : Launch} {D : va_G} {q : Nat → Nat} {dA : Nat → ClassId} {tv ta tb : Nat} (hq : sf_inj q KX) {σ τ : sf_St} {u0 u1 : Int32} {r : Int32} (h : R_X0_height σ u0 u1 r τ) : sf_Mi l yX0_height wsX0_height ({ frames := 1, cells := 0, slots := 0, locals := 22 }) D vwCl q dA KX (sf_EX q tv ta tb) [.ref (q 1), .int u0, .int u1] σ r τ := by
  refine sf_meti (cc := cX0_height) (maxL := 4) (ret := (some .int)) (own := RX0) (by decide +kernel) rfl rfl hq sf_EXk (Nat.le_of_ble_eq_true rfl) ?_
  intro p e s m args below meth c X
  have hT := X.2.2.2.1.2.1
  unfold R_X0_height at h
  refine sf_loc (lv' := [(0, .ref (q 1)), (1, .int u0), (2, .int u1)]) [0, 1, 2] rfl ?_
  refine sf_aload_n (i := 0) (j := 0) X dX0_height_0 rfl rfl rfl ?_
  refine sf_iload_n (i := 1) (j := 1) X dX0_height_1 rfl rfl rfl ?_
  refine sf_iload_n (i := 2) (j := 2) X dX0_height_2 rfl rfl rfl ?_
  obtain ⟨r3, τ2, hR1, h⟩ := h
  refine sf_callVi (As := [.int u0, .int u1]) (rest := []) (cv := (RX0, TX0, 10)) X rfl rfl (c_X0_areBonded hq hR1) (cwV 2 X.1.2.2.2.2 (sf_gV tw_367 tw_283 tw_284 tw_42 tw_285) rfl rfl rfl ⟨rfl, hd_X0_areBonded⟩ ⟨Nat.le_of_ble_eq_true rfl, Nat.le_of_ble_eq_true rfl⟩) rfl rfl (Nat.le_of_ble_eq_true rfl) dX0_height_3 rfl ?_
  refine sf_if_ne (tgt := 11) X dX0_height_6 rfl rfl (fun c4 => ?_) (fun c4 => ?_)
  · have h := sf_iff c4 h
    refine sf_aload_n (i := 0) (j := 0) X dX0_height_11 rfl rfl rfl ?_
    refine sf_iload_n (i := 1) (j := 1) X dX0_height_12 rfl rfl rfl ?_
    refine sf_iload_n (i := 2) (j := 2) X dX0_height_13 rfl rfl rfl ?_
    obtain ⟨r7, τ6, hR5, h⟩ := h
    refine sf_callVi (As := [.int u0, .int u1]) (rest := []) (cv := (RX0, TX0, 10)) X rfl rfl (c_X0_bondOf hq hR5) (cwV 2 X.1.2.2.2.2 (sf_gV tw_368 tw_369 tw_370 tw_42 tw_371) rfl rfl rfl ⟨rfl, hd_X0_bondOf⟩ ⟨Nat.le_of_ble_eq_true rfl, Nat.le_of_ble_eq_true rfl⟩) rfl rfl (Nat.le_of_ble_eq_true rfl) dX0_height_14 rfl ?_
    refine sf_istore_n (i := 3) (lv' := [(3, .int r7), (0, .ref (q 1)), (1, .int u0), (2, .int u1)]) X dX0_height_17 rfl (by decide) rfl rfl ?_
    refine sf_aload_n (i := 0) (j := 1) X dX0_height_18 rfl rfl rfl ?_
    refine sf_getR (C := RX0) (T := TX0) (N := 10) (ci := 0) (j := 4) (k' := 5) X (fun w h => sf_memc (inX0 w h)) rfl rfl (by decide) (X.1.2.2.2.2 _ (sf_memc tw_87)) (fun _ h9 => h9) rfl dX0_height_19 rfl ?_
    refine sf_iload_n (i := 3) (j := 0) X dX0_height_22 rfl rfl rfl ?_
    obtain ⟨b8, h⟩ := h
    refine sf_iald X rfl b8 dX0_height_23 rfl ?_
    refine sf_iload_n (i := 1) (j := 2) X dX0_height_24 rfl rfl rfl ?_
    refine sf_icmp_ne (tgt := 37) X dX0_height_25 rfl rfl (fun c9 => ?_) (fun c9 => ?_)
    · have h := sf_iff c9 h
      refine sf_iconst (v := 0) X dX0_height_37 sf_ic_0 rfl ?_
      exact sf_reti X h dX0_height_38
    · have h := sf_ift c9 h
      refine sf_aload_n (i := 0) (j := 1) X dX0_height_28 rfl rfl rfl ?_
      refine sf_getR (C := RX0) (T := TX0) (N := 10) (ci := 0) (j := 7) (k' := 8) X (fun w h => sf_memc (inX0 w h)) rfl rfl (by decide) (X.1.2.2.2.2 _ (sf_memc tw_95)) (fun _ h9 => h9) rfl dX0_height_29 rfl ?_
      refine sf_iload_n (i := 3) (j := 0) X dX0_height_32 rfl rfl rfl ?_
      obtain ⟨b10, h⟩ := h
      refine sf_iald X rfl b10 dX0_height_33 rfl ?_
      refine sf_if_ne (tgt := 39) X dX0_height_34 rfl rfl (fun c11 => ?_) (fun c11 => ?_)
      · have h := sf_iff c11 h
        refine sf_aload_n (i := 0) (j := 1) X dX0_height_39 rfl rfl rfl ?_
        refine sf_getR (C := RX0) (T := TX0) (N := 10) (ci := 0) (j := 7) (k' := 8) X (fun w h => sf_memc (inX0 w h)) rfl rfl (by decide) (X.1.2.2.2.2 _ (sf_memc tw_95)) (fun _ h9 => h9) rfl dX0_height_40 rfl ?_
        refine sf_iload_n (i := 3) (j := 0) X dX0_height_43 rfl rfl rfl ?_
        obtain ⟨b12, h⟩ := h
        refine sf_iald X rfl b12 dX0_height_44 rfl ?_
        refine sf_iconst (v := 1) X dX0_height_45 sf_ic_1 rfl ?_
        refine sf_icmp_ne (tgt := 53) X dX0_height_46 rfl rfl (fun c13 => ?_) (fun c13 => ?_)
        · have h := sf_iff c13 h
          refine sf_iconst (v := (-1)) X dX0_height_53 sf_ic_m1 rfl ?_
          exact sf_reti X h dX0_height_54
        · have h := sf_ift c13 h
          refine sf_iconst (v := 1) X dX0_height_49 sf_ic_1 rfl ?_
          refine sf_goto (tgt := 54) X dX0_height_50 rfl ?_
          exact sf_reti X h dX0_height_54
      · have h := sf_ift c11 h
        refine sf_iconst (v := 0) X dX0_height_37 sf_ic_0 rfl ?_
        exact sf_reti X h dX0_height_38
  · have h := sf_ift c4 h
    refine sf_iconst (v := 0) X dX0_height_9 sf_ic_0 rfl ?_
    exact sf_reti X h dX0_height_10
def R_X4_determinant (σ : sf_St) (u0 u1 : Int32) (r : Int32) (τ : sf_St) : Prop :=
  vp_in u1 7 ∧ (∀ y2 : Int32, y2 = (σ 3 (sf_ix u1)) → (vp_in u1 7 ∧ (∀ y4 : Int32, y4 = (σ 4 (sf_ix u1)) → (∃ (r7 : Int32) (τ6 : sf_St), R_X0_height σ u0 u1 r7 τ6 ∧ (vp_in (τ6 21 (sf_ix (0 : Int32))) 7 ∧ (∀ y9 : Int32, y9 = ((τ6 3 (sf_ix (τ6 21 (sf_ix (0 : Int32))))) - y2) → (vp_in (τ6 21 (sf_ix (0 : Int32))) 7 ∧ (∀ y11 : Int32, y11 = ((τ6 4 (sf_ix (τ6 21 (sf_ix (0 : Int32))))) - y4) → (∃ (r14 : Int32) (τ13 : sf_St), R_X0_height τ6 u0 (τ6 21 (sf_ix (0 : Int32))) r14 τ13 ∧ (∀ y15 : Int32, y15 = (r14 - r7) → (vp_in (τ13 21 (sf_ix (1 : Int32))) 7 ∧ (∀ y17 : Int32, y17 = ((τ13 3 (sf_ix (τ13 21 (sf_ix (1 : Int32))))) - y2) → (vp_in (τ13 21 (sf_ix (1 : Int32))) 7 ∧ (∀ y19 : Int32, y19 = ((τ13 4 (sf_ix (τ13 21 (sf_ix (1 : Int32))))) - y4) → (∃ (r22 : Int32) (τ21 : sf_St), R_X0_height τ13 u0 (τ13 21 (sf_ix (1 : Int32))) r22 τ21 ∧ (∀ y23 : Int32, y23 = (r22 - r7) → (vp_in (τ21 21 (sf_ix (2 : Int32))) 7 ∧ (∀ y25 : Int32, y25 = ((τ21 3 (sf_ix (τ21 21 (sf_ix (2 : Int32))))) - y2) → (vp_in (τ21 21 (sf_ix (2 : Int32))) 7 ∧ (∀ y27 : Int32, y27 = ((τ21 4 (sf_ix (τ21 21 (sf_ix (2 : Int32))))) - y4) → (∃ (r30 : Int32) (τ29 : sf_St), R_X0_height τ21 u0 (τ21 21 (sf_ix (2 : Int32))) r30 τ29 ∧ (∀ y31 : Int32, y31 = (r30 - r7) → (r = (((y9 * ((y19 * y31) - (y23 * y27))) - (y11 * ((y17 * y31) - (y23 * y25)))) + (y15 * ((y17 * y27) - (y19 * y25)))) ∧ τ = τ29)))))))))))))))))))))))
set_option maxHeartbeats 4000000 in
set_option maxRecDepth 100000 in
theorem c_X4_determinant {l : Launch} {D : va_G} {q : Nat → Nat} {dA : Nat → ClassId} {tv ta tb : Nat} (hq : sf_inj q KX) {σ τ : sf_St} {u0 u1 : Int32} {r : Int32} (h : R_X4_determinant σ u0 u1 r τ) : sf_Mi l yX4_determinant wsX4_determinant ({ frames := 2, cells := 0, slots := 0, locals := 45 }) D vwCl q dA KX (sf_EX q tv ta tb) [.ref (q 17), .ref (q 1), .int u0, .int u1] σ r τ := by
  refine sf_meti (cc := cX4_determinant) (maxL := 16) (ret := (some .int)) (own := RX4) (by decide +kernel) rfl rfl hq sf_EXk (Nat.le_of_ble_eq_true rfl) ?_
  intro p e s m args below meth c X
  have hT := X.2.2.2.1.2.1
  unfold R_X4_determinant at h
  refine sf_loc (lv' := [(0, .ref (q 17)), (1, .ref (q 1)), (2, .int u0), (3, .int u1)]) [0, 1, 2, 3] rfl ?_
  refine sf_aload_n (i := 1) (j := 1) X dX4_determinant_0 rfl rfl rfl ?_
  refine sf_getR (C := RX0) (T := TX0) (N := 10) (ci := 0) (j := 1) (k' := 3) X (fun w h => sf_memc (inX0 w h)) rfl rfl (by decide) (X.1.2.2.2.2 _ (sf_memc tw_77)) (fun _ h9 => h9) rfl dX4_determinant_1 rfl ?_
  refine sf_iload_n (i := 3) (j := 3) X dX4_determinant_4 rfl rfl rfl ?_
  obtain ⟨b1, h⟩ := h
  refine sf_iald X rfl b1 dX4_determinant_5 rfl ?_
  refine sf_top (fun y2 hy2 => ?_)
  have h := h y2 hy2
  refine sf_istore (i := 4) (lv' := [(4, .int y2), (0, .ref (q 17)), (1, .ref (q 1)), (2, .int u0), (3, .int u1)]) X dX4_determinant_6 (by decide) rfl rfl ?_
  refine sf_aload_n (i := 1) (j := 2) X dX4_determinant_8 rfl rfl rfl ?_
  refine sf_getR (C := RX0) (T := TX0) (N := 10) (ci := 0) (j := 2) (k' := 4) X (fun w h => sf_memc (inX0 w h)) rfl rfl (by decide) (X.1.2.2.2.2 _ (sf_memc tw_80)) (fun _ h9 => h9) rfl dX4_determinant_9 rfl ?_
  refine sf_iload_n (i := 3) (j := 4) X dX4_determinant_12 rfl rfl rfl ?_
  obtain ⟨b3, h⟩ := h
  refine sf_iald X rfl b3 dX4_determinant_13 rfl ?_
  refine sf_top (fun y4 hy4 => ?_)
  have h := h y4 hy4
  refine sf_istore (i := 5) (lv' := [(5, .int y4), (4, .int y2), (0, .ref (q 17)), (1, .ref (q 1)), (2, .int u0), (3, .int u1)]) X dX4_determinant_14 (by decide) rfl rfl ?_
  refine sf_aload_n (i := 1) (j := 3) X dX4_determinant_16 rfl rfl rfl ?_
  refine sf_iload_n (i := 2) (j := 4) X dX4_determinant_17 rfl rfl rfl ?_
  refine sf_iload_n (i := 3) (j := 5) X dX4_determinant_18 rfl rfl rfl ?_
  obtain ⟨r7, τ6, hR5, h⟩ := h
  refine sf_callVi (As := [.int u0, .int u1]) (rest := []) (cv := (RX0, TX0, 10)) X rfl rfl (c_X0_height hq hR5) (cwV 2 X.1.2.2.2.2 (sf_gV tw_363 tw_364 tw_365 tw_42 tw_366) rfl rfl rfl ⟨rfl, hd_X0_height⟩ ⟨Nat.le_of_ble_eq_true rfl, Nat.le_of_ble_eq_true rfl⟩) rfl rfl (Nat.le_of_ble_eq_true rfl) dX4_determinant_19 rfl ?_
  refine sf_istore (i := 6) (lv' := [(6, .int r7), (5, .int y4), (4, .int y2), (0, .ref (q 17)), (1, .ref (q 1)), (2, .int u0), (3, .int u1)]) X dX4_determinant_22 (by decide) rfl rfl ?_
  refine sf_aload_n (i := 1) (j := 4) X dX4_determinant_24 rfl rfl rfl ?_
  refine sf_getR (C := RX0) (T := TX0) (N := 10) (ci := 0) (j := 1) (k' := 3) X (fun w h => sf_memc (inX0 w h)) rfl rfl (by decide) (X.1.2.2.2.2 _ (sf_memc tw_77)) (fun _ h9 => h9) rfl dX4_determinant_25 rfl ?_
  refine sf_aload_n (i := 0) (j := 3) X dX4_determinant_28 rfl rfl rfl ?_
  refine sf_getR (C := RX4) (T := TX4) (N := 4) (ci := 4) (j := 3) (k' := 21) X (fun w h => sf_memc (inX4 w h)) rfl rfl (by decide) (X.1.2.2.2.2 _ (sf_memc tw_135)) (fun _ h9 => h9) rfl dX4_determinant_29 rfl ?_
  refine sf_iconst (v := 0) X dX4_determinant_32 sf_ic_0 rfl ?_
  refine sf_iald X rfl (sf_inD rfl) dX4_determinant_33 rfl ?_
  obtain ⟨b8, h⟩ := h
  refine sf_iald X rfl b8 dX4_determinant_34 rfl ?_
  refine sf_iload (i := 4) (j := 2) X dX4_determinant_35 rfl rfl ?_
  refine sf_isub X dX4_determinant_37 rfl ?_
  refine sf_top (fun y9 hy9 => ?_)
  have h := h y9 hy9
  refine sf_istore (i := 7) (lv' := [(7, .int y9), (6, .int r7), (5, .int y4), (4, .int y2), (0, .ref (q 17)), (1, .ref (q 1)), (2, .int u0), (3, .int u1)]) X dX4_determinant_38 (by decide) rfl rfl ?_
  refine sf_aload_n (i := 1) (j := 5) X dX4_determinant_40 rfl rfl rfl ?_
  refine sf_getR (C := RX0) (T := TX0) (N := 10) (ci := 0) (j := 2) (k' := 4) X (fun w h => sf_memc (inX0 w h)) rfl rfl (by decide) (X.1.2.2.2.2 _ (sf_memc tw_80)) (fun _ h9 => h9) rfl dX4_determinant_41 rfl ?_
  refine sf_aload_n (i := 0) (j := 4) X dX4_determinant_44 rfl rfl rfl ?_
  refine sf_getR (C := RX4) (T := TX4) (N := 4) (ci := 4) (j := 3) (k' := 21) X (fun w h => sf_memc (inX4 w h)) rfl rfl (by decide) (X.1.2.2.2.2 _ (sf_memc tw_135)) (fun _ h9 => h9) rfl dX4_determinant_45 rfl ?_
  refine sf_iconst (v := 0) X dX4_determinant_48 sf_ic_0 rfl ?_
  refine sf_iald X rfl (sf_inD rfl) dX4_determinant_49 rfl ?_
  obtain ⟨b10, h⟩ := h
  refine sf_iald X rfl b10 dX4_determinant_50 rfl ?_
  refine sf_iload (i := 5) (j := 2) X dX4_determinant_51 rfl rfl ?_
  refine sf_isub X dX4_determinant_53 rfl ?_
  refine sf_top (fun y11 hy11 => ?_)
  have h := h y11 hy11
  refine sf_istore (i := 8) (lv' := [(8, .int y11), (7, .int y9), (6, .int r7), (5, .int y4), (4, .int y2), (0, .ref (q 17)), (1, .ref (q 1)), (2, .int u0), (3, .int u1)]) X dX4_determinant_54 (by decide) rfl rfl ?_
  refine sf_aload_n (i := 1) (j := 6) X dX4_determinant_56 rfl rfl rfl ?_
  refine sf_iload_n (i := 2) (j := 7) X dX4_determinant_57 rfl rfl rfl ?_
  refine sf_aload_n (i := 0) (j := 5) X dX4_determinant_58 rfl rfl rfl ?_
  refine sf_getR (C := RX4) (T := TX4) (N := 4) (ci := 4) (j := 3) (k' := 21) X (fun w h => sf_memc (inX4 w h)) rfl rfl (by decide) (X.1.2.2.2.2 _ (sf_memc tw_135)) (fun _ h9 => h9) rfl dX4_determinant_59 rfl ?_
  refine sf_iconst (v := 0) X dX4_determinant_62 sf_ic_0 rfl ?_
  refine sf_iald X rfl (sf_inD rfl) dX4_determinant_63 rfl ?_
  obtain ⟨r14, τ13, hR12, h⟩ := h
  refine sf_callVi (As := [.int u0, .int (τ6 21 (sf_ix (0 : Int32)))]) (rest := []) (cv := (RX0, TX0, 10)) X rfl rfl (c_X0_height hq hR12) (cwV 2 X.1.2.2.2.2 (sf_gV tw_363 tw_364 tw_365 tw_42 tw_366) rfl rfl rfl ⟨rfl, hd_X0_height⟩ ⟨Nat.le_of_ble_eq_true rfl, Nat.le_of_ble_eq_true rfl⟩) rfl rfl (Nat.le_of_ble_eq_true rfl) dX4_determinant_64 rfl ?_
  refine sf_iload (i := 6) (j := 2) X dX4_determinant_67 rfl rfl ?_
  refine sf_isub X dX4_determinant_69 rfl ?_
  refine sf_top (fun y15 hy15 => ?_)
  have h := h y15 hy15
  refine sf_istore (i := 9) (lv' := [(9, .int y15), (8, .int y11), (7, .int y9), (6, .int r7), (5, .int y4), (4, .int y2), (0, .ref (q 17)), (1, .ref (q 1)), (2, .int u0), (3, .int u1)]) X dX4_determinant_70 (by decide) rfl rfl ?_
  refine sf_aload_n (i := 1) (j := 7) X dX4_determinant_72 rfl rfl rfl ?_
  refine sf_getR (C := RX0) (T := TX0) (N := 10) (ci := 0) (j := 1) (k' := 3) X (fun w h => sf_memc (inX0 w h)) rfl rfl (by decide) (X.1.2.2.2.2 _ (sf_memc tw_77)) (fun _ h9 => h9) rfl dX4_determinant_73 rfl ?_
  refine sf_aload_n (i := 0) (j := 6) X dX4_determinant_76 rfl rfl rfl ?_
  refine sf_getR (C := RX4) (T := TX4) (N := 4) (ci := 4) (j := 3) (k' := 21) X (fun w h => sf_memc (inX4 w h)) rfl rfl (by decide) (X.1.2.2.2.2 _ (sf_memc tw_135)) (fun _ h9 => h9) rfl dX4_determinant_77 rfl ?_
  refine sf_iconst (v := 1) X dX4_determinant_80 sf_ic_1 rfl ?_
  refine sf_iald X rfl (sf_inD rfl) dX4_determinant_81 rfl ?_
  obtain ⟨b16, h⟩ := h
  refine sf_iald X rfl b16 dX4_determinant_82 rfl ?_
  refine sf_iload (i := 4) (j := 5) X dX4_determinant_83 rfl rfl ?_
  refine sf_isub X dX4_determinant_85 rfl ?_
  refine sf_top (fun y17 hy17 => ?_)
  have h := h y17 hy17
  refine sf_istore (i := 10) (lv' := [(10, .int y17), (9, .int y15), (8, .int y11), (7, .int y9), (6, .int r7), (5, .int y4), (4, .int y2), (0, .ref (q 17)), (1, .ref (q 1)), (2, .int u0), (3, .int u1)]) X dX4_determinant_86 (by decide) rfl rfl ?_
  refine sf_aload_n (i := 1) (j := 8) X dX4_determinant_88 rfl rfl rfl ?_
  refine sf_getR (C := RX0) (T := TX0) (N := 10) (ci := 0) (j := 2) (k' := 4) X (fun w h => sf_memc (inX0 w h)) rfl rfl (by decide) (X.1.2.2.2.2 _ (sf_memc tw_80)) (fun _ h9 => h9) rfl dX4_determinant_89 rfl ?_
  refine sf_aload_n (i := 0) (j := 7) X dX4_determinant_92 rfl rfl rfl ?_
  refine sf_getR (C := RX4) (T := TX4) (N := 4) (ci := 4) (j := 3) (k' := 21) X (fun w h => sf_memc (inX4 w h)) rfl rfl (by decide) (X.1.2.2.2.2 _ (sf_memc tw_135)) (fun _ h9 => h9) rfl dX4_determinant_93 rfl ?_
  refine sf_iconst (v := 1) X dX4_determinant_96 sf_ic_1 rfl ?_
  refine sf_iald X rfl (sf_inD rfl) dX4_determinant_97 rfl ?_
  obtain ⟨b18, h⟩ := h
  refine sf_iald X rfl b18 dX4_determinant_98 rfl ?_
  refine sf_iload (i := 5) (j := 5) X dX4_determinant_99 rfl rfl ?_
  refine sf_isub X dX4_determinant_101 rfl ?_
  refine sf_top (fun y19 hy19 => ?_)
  have h := h y19 hy19
  refine sf_istore (i := 11) (lv' := [(11, .int y19), (10, .int y17), (9, .int y15), (8, .int y11), (7, .int y9), (6, .int r7), (5, .int y4), (4, .int y2), (0, .ref (q 17)), (1, .ref (q 1)), (2, .int u0), (3, .int u1)]) X dX4_determinant_102 (by decide) rfl rfl ?_
  refine sf_aload_n (i := 1) (j := 9) X dX4_determinant_104 rfl rfl rfl ?_
  refine sf_iload_n (i := 2) (j := 10) X dX4_determinant_105 rfl rfl rfl ?_
  refine sf_aload_n (i := 0) (j := 8) X dX4_determinant_106 rfl rfl rfl ?_
  refine sf_getR (C := RX4) (T := TX4) (N := 4) (ci := 4) (j := 3) (k' := 21) X (fun w h => sf_memc (inX4 w h)) rfl rfl (by decide) (X.1.2.2.2.2 _ (sf_memc tw_135)) (fun _ h9 => h9) rfl dX4_determinant_107 rfl ?_
  refine sf_iconst (v := 1) X dX4_determinant_110 sf_ic_1 rfl ?_
  refine sf_iald X rfl (sf_inD rfl) dX4_determinant_111 rfl ?_
  obtain ⟨r22, τ21, hR20, h⟩ := h
  refine sf_callVi (As := [.int u0, .int (τ13 21 (sf_ix (1 : Int32)))]) (rest := []) (cv := (RX0, TX0, 10)) X rfl rfl (c_X0_height hq hR20) (cwV 2 X.1.2.2.2.2 (sf_gV tw_363 tw_364 tw_365 tw_42 tw_366) rfl rfl rfl ⟨rfl, hd_X0_height⟩ ⟨Nat.le_of_ble_eq_true rfl, Nat.le_of_ble_eq_true rfl⟩) rfl rfl (Nat.le_of_ble_eq_true rfl) dX4_determinant_112 rfl ?_
  refine sf_iload (i := 6) (j := 5) X dX4_determinant_115 rfl rfl ?_
  refine sf_isub X dX4_determinant_117 rfl ?_
  refine sf_top (fun y23 hy23 => ?_)
  have h := h y23 hy23
  refine sf_istore (i := 12) (lv' := [(12, .int y23), (11, .int y19), (10, .int y17), (9, .int y15), (8, .int y11), (7, .int y9), (6, .int r7), (5, .int y4), (4, .int y2), (0, .ref (q 17)), (1, .ref (q 1)), (2, .int u0), (3, .int u1)]) X dX4_determinant_118 (by decide) rfl rfl ?_
  refine sf_aload_n (i := 1) (j := 10) X dX4_determinant_120 rfl rfl rfl ?_
  refine sf_getR (C := RX0) (T := TX0) (N := 10) (ci := 0) (j := 1) (k' := 3) X (fun w h => sf_memc (inX0 w h)) rfl rfl (by decide) (X.1.2.2.2.2 _ (sf_memc tw_77)) (fun _ h9 => h9) rfl dX4_determinant_121 rfl ?_
  refine sf_aload_n (i := 0) (j := 9) X dX4_determinant_124 rfl rfl rfl ?_
  refine sf_getR (C := RX4) (T := TX4) (N := 4) (ci := 4) (j := 3) (k' := 21) X (fun w h => sf_memc (inX4 w h)) rfl rfl (by decide) (X.1.2.2.2.2 _ (sf_memc tw_135)) (fun _ h9 => h9) rfl dX4_determinant_125 rfl ?_
  refine sf_iconst (v := 2) X dX4_determinant_128 sf_ic_2 rfl ?_
  refine sf_iald X rfl (sf_inD rfl) dX4_determinant_129 rfl ?_
  obtain ⟨b24, h⟩ := h
  refine sf_iald X rfl b24 dX4_determinant_130 rfl ?_
  refine sf_iload (i := 4) (j := 8) X dX4_determinant_131 rfl rfl ?_
  refine sf_isub X dX4_determinant_133 rfl ?_
  refine sf_top (fun y25 hy25 => ?_)
  have h := h y25 hy25
  refine sf_istore (i := 13) (lv' := [(13, .int y25), (12, .int y23), (11, .int y19), (10, .int y17), (9, .int y15), (8, .int y11), (7, .int y9), (6, .int r7), (5, .int y4), (4, .int y2), (0, .ref (q 17)), (1, .ref (q 1)), (2, .int u0), (3, .int u1)]) X dX4_determinant_134 (by decide) rfl rfl ?_
  refine sf_aload_n (i := 1) (j := 11) X dX4_determinant_136 rfl rfl rfl ?_
  refine sf_getR (C := RX0) (T := TX0) (N := 10) (ci := 0) (j := 2) (k' := 4) X (fun w h => sf_memc (inX0 w h)) rfl rfl (by decide) (X.1.2.2.2.2 _ (sf_memc tw_80)) (fun _ h9 => h9) rfl dX4_determinant_137 rfl ?_
  refine sf_aload_n (i := 0) (j := 10) X dX4_determinant_140 rfl rfl rfl ?_
  refine sf_getR (C := RX4) (T := TX4) (N := 4) (ci := 4) (j := 3) (k' := 21) X (fun w h => sf_memc (inX4 w h)) rfl rfl (by decide) (X.1.2.2.2.2 _ (sf_memc tw_135)) (fun _ h9 => h9) rfl dX4_determinant_141 rfl ?_
  refine sf_iconst (v := 2) X dX4_determinant_144 sf_ic_2 rfl ?_
  refine sf_iald X rfl (sf_inD rfl) dX4_determinant_145 rfl ?_
  obtain ⟨b26, h⟩ := h
  refine sf_iald X rfl b26 dX4_determinant_146 rfl ?_
  refine sf_iload (i := 5) (j := 8) X dX4_determinant_147 rfl rfl ?_
  refine sf_isub X dX4_determinant_149 rfl ?_
  refine sf_top (fun y27 hy27 => ?_)
  have h := h y27 hy27
  refine sf_istore (i := 14) (lv' := [(14, .int y27), (13, .int y25), (12, .int y23), (11, .int y19), (10, .int y17), (9, .int y15), (8, .int y11), (7, .int y9), (6, .int r7), (5, .int y4), (4, .int y2), (0, .ref (q 17)), (1, .ref (q 1)), (2, .int u0), (3, .int u1)]) X dX4_determinant_150 (by decide) rfl rfl ?_
  refine sf_aload_n (i := 1) (j := 12) X dX4_determinant_152 rfl rfl rfl ?_
  refine sf_iload_n (i := 2) (j := 13) X dX4_determinant_153 rfl rfl rfl ?_
  refine sf_aload_n (i := 0) (j := 11) X dX4_determinant_154 rfl rfl rfl ?_
  refine sf_getR (C := RX4) (T := TX4) (N := 4) (ci := 4) (j := 3) (k' := 21) X (fun w h => sf_memc (inX4 w h)) rfl rfl (by decide) (X.1.2.2.2.2 _ (sf_memc tw_135)) (fun _ h9 => h9) rfl dX4_determinant_155 rfl ?_
  refine sf_iconst (v := 2) X dX4_determinant_158 sf_ic_2 rfl ?_
  refine sf_iald X rfl (sf_inD rfl) dX4_determinant_159 rfl ?_
  obtain ⟨r30, τ29, hR28, h⟩ := h
  refine sf_callVi (As := [.int u0, .int (τ21 21 (sf_ix (2 : Int32)))]) (rest := []) (cv := (RX0, TX0, 10)) X rfl rfl (c_X0_height hq hR28) (cwV 2 X.1.2.2.2.2 (sf_gV tw_363 tw_364 tw_365 tw_42 tw_366) rfl rfl rfl ⟨rfl, hd_X0_height⟩ ⟨Nat.le_of_ble_eq_true rfl, Nat.le_of_ble_eq_true rfl⟩) rfl rfl (Nat.le_of_ble_eq_true rfl) dX4_determinant_160 rfl ?_
  refine sf_iload (i := 6) (j := 8) X dX4_determinant_163 rfl rfl ?_
  refine sf_isub X dX4_determinant_165 rfl ?_
  refine sf_top (fun y31 hy31 => ?_)
  have h := h y31 hy31
  refine sf_istore (i := 15) (lv' := [(15, .int y31), (14, .int y27), (13, .int y25), (12, .int y23), (11, .int y19), (10, .int y17), (9, .int y15), (8, .int y11), (7, .int y9), (6, .int r7), (5, .int y4), (4, .int y2), (0, .ref (q 17)), (1, .ref (q 1)), (2, .int u0), (3, .int u1)]) X dX4_determinant_166 (by decide) rfl rfl ?_
  refine sf_iload (i := 7) (j := 8) X dX4_determinant_168 rfl rfl ?_
  refine sf_iload (i := 11) (j := 4) X dX4_determinant_170 rfl rfl ?_
  refine sf_iload (i := 15) (j := 0) X dX4_determinant_172 rfl rfl ?_
  refine sf_imul X dX4_determinant_174 rfl ?_
  refine sf_iload (i := 12) (j := 3) X dX4_determinant_175 rfl rfl ?_
  refine sf_iload (i := 14) (j := 1) X dX4_determinant_177 rfl rfl ?_
  refine sf_imul X dX4_determinant_179 rfl ?_
  refine sf_isub X dX4_determinant_180 rfl ?_
  refine sf_imul X dX4_determinant_181 rfl ?_
  refine sf_iload (i := 8) (j := 7) X dX4_determinant_182 rfl rfl ?_
  refine sf_iload (i := 10) (j := 5) X dX4_determinant_184 rfl rfl ?_
  refine sf_iload (i := 15) (j := 0) X dX4_determinant_186 rfl rfl ?_
  refine sf_imul X dX4_determinant_188 rfl ?_
  refine sf_iload (i := 12) (j := 3) X dX4_determinant_189 rfl rfl ?_
  refine sf_iload (i := 13) (j := 2) X dX4_determinant_191 rfl rfl ?_
  refine sf_imul X dX4_determinant_193 rfl ?_
  refine sf_isub X dX4_determinant_194 rfl ?_
  refine sf_imul X dX4_determinant_195 rfl ?_
  refine sf_isub X dX4_determinant_196 rfl ?_
  refine sf_iload (i := 9) (j := 6) X dX4_determinant_197 rfl rfl ?_
  refine sf_iload (i := 10) (j := 5) X dX4_determinant_199 rfl rfl ?_
  refine sf_iload (i := 14) (j := 1) X dX4_determinant_201 rfl rfl ?_
  refine sf_imul X dX4_determinant_203 rfl ?_
  refine sf_iload (i := 11) (j := 4) X dX4_determinant_204 rfl rfl ?_
  refine sf_iload (i := 13) (j := 2) X dX4_determinant_206 rfl rfl ?_
  refine sf_imul X dX4_determinant_208 rfl ?_
  refine sf_isub X dX4_determinant_209 rfl ?_
  refine sf_imul X dX4_determinant_210 rfl ?_
  refine sf_iadd X dX4_determinant_211 rfl ?_
  exact sf_reti X h dX4_determinant_212
def R_X6_sign (σ : sf_St) (u0 : Int32) (r : Int32) (τ : sf_St) : Prop :=
  if u0 ≤ (0 : Int32) then (if (0 : Int32) ≤ u0 then (r = (0 : Int32) ∧ τ = σ) else (r = (-1 : Int32) ∧ τ = σ)) else (r = (1 : Int32) ∧ τ = σ)
set_option maxHeartbeats 4000000 in
set_option maxRecDepth 100000 in
theorem c_X6_sign {l : Launch} {D : va_G} {q : Nat → Nat} {dA : Nat → ClassId} {tv ta tb : Nat} (hq : sf_inj q KX) {σ τ : sf_St} {u0 : Int32} {r : Int32} (h : R_X6_sign σ u0 r τ) : sf_Mi l yX6_sign wsX6_sign ({ frames := 0, cells := 0, slots := 0, locals := 0 }) D vwCl q dA KX (sf_EX q tv ta tb) [.int u0] σ r τ := by
  refine sf_meti (cc := cX6_sign) (maxL := 1) (ret := (some .int)) (own := RX6) (by decide +kernel) rfl rfl hq sf_EXk (Nat.le_of_ble_eq_true rfl) ?_
  intro p e s m args below meth c X
  have hT := X.2.2.2.1.2.1
  unfold R_X6_sign at h
  refine sf_loc (lv' := [(0, .int u0)]) [0] rfl ?_
  refine sf_iload_n (i := 0) (j := 0) X dX6_sign_0 rfl rfl rfl ?_
  refine sf_if_le (tgt := 8) X dX6_sign_1 rfl rfl (fun c1 => ?_) (fun c1 => ?_)
  · have h := sf_ift c1 h
    refine sf_iload_n (i := 0) (j := 0) X dX6_sign_8 rfl rfl rfl ?_
    refine sf_if_ge (tgt := 16) X dX6_sign_9 rfl rfl (fun c2 => ?_) (fun c2 => ?_)
    · have h := sf_ift c2 h
      refine sf_iconst (v := 0) X dX6_sign_16 sf_ic_0 rfl ?_
      exact sf_reti X h dX6_sign_17
    · have h := sf_iff c2 h
      refine sf_iconst (v := (-1)) X dX6_sign_12 sf_ic_m1 rfl ?_
      refine sf_goto (tgt := 17) X dX6_sign_13 rfl ?_
      exact sf_reti X h dX6_sign_17
  · have h := sf_iff c1 h
    refine sf_iconst (v := 1) X dX6_sign_4 sf_ic_1 rfl ?_
    refine sf_goto (tgt := 17) X dX6_sign_5 rfl ?_
    exact sf_reti X h dX6_sign_17
def tr_R_X4_senseOfAtom_0 (Pr : Nat → sf_St → Int32 → Int32 → Int32 → Prop) (r : Int32) (τ : sf_St) (σ : sf_St) (u0 u1 u2 : Int32) : Prop :=
  ∃ (r3 : Int32) (τ2 : sf_St), R_X0_isCentre σ u0 r3 τ2 ∧ (if r3 = (0 : Int32) then (r = (0 : Int32) ∧ τ = τ2) else (Pr 1 τ2 u0 (0 : Int32) (0 : Int32)))
def tr_R_X4_senseOfAtom_1 (Pr : Nat → sf_St → Int32 → Int32 → Int32 → Prop) (r : Int32) (τ : sf_St) (σ : sf_St) (u0 u1 u2 : Int32) : Prop :=
  if (σ 1 3) ≤ u2 then (if u1 = (4 : Int32) then (∃ (r15 : Int32) (τ14 : sf_St), R_X4_determinant σ u0 (σ 21 (sf_ix (3 : Int32))) r15 τ14 ∧ (∃ (r18 : Int32) (τ17 : sf_St), R_X6_sign τ14 r15 r18 τ17 ∧ (r = r18 ∧ τ = τ17))) else (∃ (r9 : Int32) (τ8 : sf_St), R_X4_determinant σ u0 u0 r9 τ8 ∧ (∃ (r12 : Int32) (τ11 : sf_St), R_X6_sign τ8 r9 r12 τ11 ∧ (r = r12 ∧ τ = τ11)))) else (∃ (r21 : Int32) (τ20 : sf_St), R_X0_areBonded σ u0 u2 r21 τ20 ∧ (if r21 = (0 : Int32) then (∀ y23 : Int32, y23 = u2 + (1 : Int32) → (Pr 1 τ20 u0 u1 y23)) else (if (4 : Int32) ≤ u1 then (∀ y25 : Int32, y25 = u2 + (1 : Int32) → (Pr 1 τ20 u0 u1 y25)) else (vp_in u1 4 ∧ (∀ τ27 : sf_St, τ27 = sf_up τ20 21 (sf_ix u1) u2 → (∀ y28 : Int32, y28 = u1 + (1 : Int32) → (∀ y29 : Int32, y29 = u2 + (1 : Int32) → (Pr 1 τ27 u0 y28 y29))))))))
def fn_R_X4_senseOfAtom (Pr : Nat → sf_St → Int32 → Int32 → Int32 → Prop) (r : Int32) (τ : sf_St) (t : Nat) (σ : sf_St) (u0 u1 u2 : Int32) : Prop := match t with
  | 0 => tr_R_X4_senseOfAtom_0 Pr r τ σ u0 u1 u2
  | 1 => tr_R_X4_senseOfAtom_1 Pr r τ σ u0 u1 u2
  | _ => False
def Rn_R_X4_senseOfAtom (t : Nat) (σ : sf_St) (u0 u1 u2 : Int32) (r : Int32) (τ : sf_St) : Prop := ∀ Pr : Nat → sf_St → Int32 → Int32 → Int32 → Prop, (∀ (t : Nat) (σ : sf_St) (u0 u1 u2 : Int32), fn_R_X4_senseOfAtom Pr r τ t σ u0 u1 u2 → Pr t σ u0 u1 u2) → Pr t σ u0 u1 u2
def R_X4_senseOfAtom (σ : sf_St) (u0 : Int32) (r : Int32) (τ : sf_St) : Prop := Rn_R_X4_senseOfAtom 0 σ u0 0 0 r τ
theorem fe_R_X4_senseOfAtom_0 {Pr : Nat → sf_St → Int32 → Int32 → Int32 → Prop} {r : Int32} {τ σ : sf_St} {u0 u1 u2 : Int32} (h : fn_R_X4_senseOfAtom Pr r τ 0 σ u0 u1 u2) : tr_R_X4_senseOfAtom_0 Pr r τ σ u0 u1 u2 := h
theorem mo_R_X4_senseOfAtom_0 {Pr Pr' : Nat → sf_St → Int32 → Int32 → Int32 → Prop} {r : Int32} {τ σ : sf_St} {u0 u1 u2 : Int32} (hP : ∀ (t : Nat) (σ : sf_St) (u0 u1 u2 : Int32), Pr t σ u0 u1 u2 → Pr' t σ u0 u1 u2) (h : tr_R_X4_senseOfAtom_0 Pr r τ σ u0 u1 u2) : tr_R_X4_senseOfAtom_0 Pr' r τ σ u0 u1 u2 := by
  unfold tr_R_X4_senseOfAtom_0 at h ⊢
  refine Exists.imp (fun _ h => Exists.imp (fun _ h => And.imp id (fun h => ?_) h) h) h
  refine sf_mif (fun h => ?_) (fun h => ?_) h
  · exact h
  · exact hP _ _ _ _ _ h
theorem ru_R_X4_senseOfAtom_0 {r : Int32} {τ σ : sf_St} {u0 u1 u2 : Int32} (h : tr_R_X4_senseOfAtom_0 (fun t σ u0 u1 u2 => Rn_R_X4_senseOfAtom t σ u0 u1 u2 r τ) r τ σ u0 u1 u2) : Rn_R_X4_senseOfAtom 0 σ u0 u1 u2 r τ := fun Pr hP => hP 0 σ u0 u1 u2 (mo_R_X4_senseOfAtom_0 (fun _ _ _ _ _ h => h Pr hP) h)
theorem fe_R_X4_senseOfAtom_1 {Pr : Nat → sf_St → Int32 → Int32 → Int32 → Prop} {r : Int32} {τ σ : sf_St} {u0 u1 u2 : Int32} (h : fn_R_X4_senseOfAtom Pr r τ 1 σ u0 u1 u2) : tr_R_X4_senseOfAtom_1 Pr r τ σ u0 u1 u2 := h
theorem mo_R_X4_senseOfAtom_1 {Pr Pr' : Nat → sf_St → Int32 → Int32 → Int32 → Prop} {r : Int32} {τ σ : sf_St} {u0 u1 u2 : Int32} (hP : ∀ (t : Nat) (σ : sf_St) (u0 u1 u2 : Int32), Pr t σ u0 u1 u2 → Pr' t σ u0 u1 u2) (h : tr_R_X4_senseOfAtom_1 Pr r τ σ u0 u1 u2) : tr_R_X4_senseOfAtom_1 Pr' r τ σ u0 u1 u2 := by
  unfold tr_R_X4_senseOfAtom_1 at h ⊢
  refine sf_mif (fun h => ?_) (fun h => ?_) h
  · refine sf_mif (fun h => ?_) (fun h => ?_) h
    · refine Exists.imp (fun _ h => Exists.imp (fun _ h => And.imp id (fun h => ?_) h) h) h
      refine Exists.imp (fun _ h => Exists.imp (fun _ h => And.imp id (fun h => ?_) h) h) h
      exact h
    · refine Exists.imp (fun _ h => Exists.imp (fun _ h => And.imp id (fun h => ?_) h) h) h
      refine Exists.imp (fun _ h => Exists.imp (fun _ h => And.imp id (fun h => ?_) h) h) h
      exact h
  · refine Exists.imp (fun _ h => Exists.imp (fun _ h => And.imp id (fun h => ?_) h) h) h
    refine sf_mif (fun h => ?_) (fun h => ?_) h
    · intro y23 hy23
      have h := h y23 hy23
      exact hP _ _ _ _ _ h
    · refine sf_mif (fun h => ?_) (fun h => ?_) h
      · intro y25 hy25
        have h := h y25 hy25
        exact hP _ _ _ _ _ h
      · refine And.imp id (fun h => ?_) h
        intro τ27 hτ27
        have h := h τ27 hτ27
        intro y28 hy28
        have h := h y28 hy28
        intro y29 hy29
        have h := h y29 hy29
        exact hP _ _ _ _ _ h
theorem ru_R_X4_senseOfAtom_1 {r : Int32} {τ σ : sf_St} {u0 u1 u2 : Int32} (h : tr_R_X4_senseOfAtom_1 (fun t σ u0 u1 u2 => Rn_R_X4_senseOfAtom t σ u0 u1 u2 r τ) r τ σ u0 u1 u2) : Rn_R_X4_senseOfAtom 1 σ u0 u1 u2 r τ := fun Pr hP => hP 1 σ u0 u1 u2 (mo_R_X4_senseOfAtom_1 (fun _ _ _ _ _ h => h Pr hP) h)
set_option maxHeartbeats 4000000 in
set_option maxRecDepth 100000 in
theorem c_X4_senseOfAtom {l : Launch} {D : va_G} {q : Nat → Nat} {dA : Nat → ClassId} {tv ta tb : Nat} (hq : sf_inj q KX) {σ τ : sf_St} {u0 : Int32} {r : Int32} (h : R_X4_senseOfAtom σ u0 r τ) : sf_Mi l yX4_senseOfAtom wsX4_senseOfAtom ({ frames := 3, cells := 0, slots := 0, locals := 80 }) D vwCl q dA KX (sf_EX q tv ta tb) [.ref (q 17), .ref (q 1), .int u0] σ r τ := by
  refine sf_meti (cc := cX4_senseOfAtom) (maxL := 5) (ret := (some .int)) (own := RX4) (by decide +kernel) rfl rfl hq sf_EXk (Nat.le_of_ble_eq_true rfl) ?_
  intro p e s m args below meth c X
  have hT := X.2.2.2.1.2.1
  refine sf_loc (lv' := [(0, .ref (q 17)), (1, .ref (q 1)), (2, .int u0)]) [0, 1, 2] rfl ?_
  refine h (fun t σ u0 u1 u2 => match t with
    | 0 => sf_G p l e (headSpec wsX4_senseOfAtom ({ frames := 3, cells := 0, slots := 0, locals := 80 })).room s m args below meth c (sf_Qi D vwCl q dA KX (sf_EX q tv ta tb) below args s r τ) 5 D vwCl q dA KX σ 0 [(0, .ref (q 17)), (1, .ref (q 1)), (2, .int u0)] []
    | 1 => sf_G p l e (headSpec wsX4_senseOfAtom ({ frames := 3, cells := 0, slots := 0, locals := 80 })).room s m args below meth c (sf_Qi D vwCl q dA KX (sf_EX q tv ta tb) below args s r τ) 5 D vwCl q dA KX σ 15 [(0, .ref (q 17)), (1, .ref (q 1)), (2, .int u0), (3, .int u1), (4, .int u2)] []
    | _ => True) ?_
  intro t σ u0 u1 u2 h
  match t, h with
  | 0, h =>
      replace h := fe_R_X4_senseOfAtom_0 h
      unfold tr_R_X4_senseOfAtom_0 at h
      show sf_G p l e (headSpec wsX4_senseOfAtom ({ frames := 3, cells := 0, slots := 0, locals := 80 })).room s m args below meth c (sf_Qi D vwCl q dA KX (sf_EX q tv ta tb) below args s r τ) 5 D vwCl q dA KX σ 0 [(0, .ref (q 17)), (1, .ref (q 1)), (2, .int u0)] []
      refine sf_aload_n (i := 1) (j := 1) X dX4_senseOfAtom_0 rfl rfl rfl ?_
      refine sf_iload_n (i := 2) (j := 2) X dX4_senseOfAtom_1 rfl rfl rfl ?_
      obtain ⟨r3, τ2, hR1, h⟩ := h
      refine sf_callVi (As := [.int u0]) (rest := []) (cv := (RX0, TX0, 10)) X rfl rfl (c_X0_isCentre hq hR1) (cwV 1 X.1.2.2.2.2 (sf_gV tw_350 tw_351 tw_352 tw_42 tw_353) rfl rfl rfl ⟨rfl, hd_X0_isCentre⟩ ⟨Nat.le_of_ble_eq_true rfl, Nat.le_of_ble_eq_true rfl⟩) rfl rfl (Nat.le_of_ble_eq_true rfl) dX4_senseOfAtom_2 rfl ?_
      refine sf_if_ne (tgt := 10) X dX4_senseOfAtom_5 rfl rfl (fun c4 => ?_) (fun c4 => ?_)
      · have h := sf_iff c4 h
        refine sf_iconst (v := 0) X dX4_senseOfAtom_10 sf_ic_0 rfl ?_
        refine sf_istore_n (i := 3) (lv' := [(3, .int (0 : Int32)), (0, .ref (q 17)), (1, .ref (q 1)), (2, .int u0)]) X dX4_senseOfAtom_11 rfl (by decide) rfl rfl ?_
        refine sf_iconst (v := 0) X dX4_senseOfAtom_12 sf_ic_0 rfl ?_
        refine sf_istore (i := 4) (lv' := [(4, .int (0 : Int32)), (3, .int (0 : Int32)), (0, .ref (q 17)), (1, .ref (q 1)), (2, .int u0)]) X dX4_senseOfAtom_13 (by decide) rfl rfl ?_
        refine sf_loc (lv' := [(0, .ref (q 17)), (1, .ref (q 1)), (2, .int u0), (3, .int (0 : Int32)), (4, .int (0 : Int32))]) [2, 3, 4, 1, 0] rfl ?_
        exact h
      · have h := sf_ift c4 h
        refine sf_iconst (v := 0) X dX4_senseOfAtom_8 sf_ic_0 rfl ?_
        exact sf_reti X h dX4_senseOfAtom_9
  | 1, h =>
      replace h := fe_R_X4_senseOfAtom_1 h
      unfold tr_R_X4_senseOfAtom_1 at h
      show sf_G p l e (headSpec wsX4_senseOfAtom ({ frames := 3, cells := 0, slots := 0, locals := 80 })).room s m args below meth c (sf_Qi D vwCl q dA KX (sf_EX q tv ta tb) below args s r τ) 5 D vwCl q dA KX σ 15 [(0, .ref (q 17)), (1, .ref (q 1)), (2, .int u0), (3, .int u1), (4, .int u2)] []
      refine sf_iload (i := 4) (j := 4) X dX4_senseOfAtom_15 rfl rfl ?_
      refine sf_aload_n (i := 1) (j := 1) X dX4_senseOfAtom_17 rfl rfl rfl ?_
      refine sf_getI (C := RX0) (T := TX0) (N := 10) (ci := 0) (j := 3) X (fun w h => sf_memc (inX0 w h)) rfl rfl (by decide) (X.1.2.2.2.2 _ (sf_memc tw_82)) (fun _ h9 => h9) rfl dX4_senseOfAtom_18 rfl ?_
      refine sf_icmp_ge (tgt := 60) X dX4_senseOfAtom_21 rfl rfl (fun c5 => ?_) (fun c5 => ?_)
      · have h := sf_ift c5 h
        refine sf_aload_n (i := 0) (j := 0) X dX4_senseOfAtom_60 rfl rfl rfl ?_
        refine sf_aload_n (i := 1) (j := 1) X dX4_senseOfAtom_61 rfl rfl rfl ?_
        refine sf_iload_n (i := 2) (j := 2) X dX4_senseOfAtom_62 rfl rfl rfl ?_
        refine sf_iload_n (i := 3) (j := 3) X dX4_senseOfAtom_63 rfl rfl rfl ?_
        refine sf_iconst (v := 4) X dX4_senseOfAtom_64 sf_ic_4 rfl ?_
        refine sf_icmp_ne (tgt := 77) X dX4_senseOfAtom_65 rfl rfl (fun c6 => ?_) (fun c6 => ?_)
        · have h := sf_iff c6 h
          refine sf_iload_n (i := 2) (j := 2) X dX4_senseOfAtom_77 rfl rfl rfl ?_
          obtain ⟨r9, τ8, hR7, h⟩ := h
          refine sf_callVi (As := [.ref (q 1), .int u0, .int u0]) (rest := []) (cv := (RX4, TX4, 4)) X rfl rfl (c_X4_determinant hq hR7) (cwV 3 X.1.2.2.2.2 (sf_gV tw_359 tw_361 tw_1 tw_43 tw_362) rfl rfl rfl ⟨rfl, hd_X4_determinant⟩ ⟨Nat.le_of_ble_eq_true rfl, Nat.le_of_ble_eq_true rfl⟩) rfl rfl (Nat.le_of_ble_eq_true rfl) dX4_senseOfAtom_78 rfl ?_
          obtain ⟨r12, τ11, hR10, h⟩ := h
          refine sf_callSNi (As := [.int r9]) (rest := []) X (c_X6_sign hq hR10) ⟨va_cnB 1 X.1.2.2.2.2 (sf_good1 tw_374) rfl rfl rfl (X.2.2.2.1.2.2.1 _ (List.mem_of_getElem? (i := 1) rfl)) (X.1.2.2.2.2 _ (sf_memc tw_41)) hd_X6_sign ⟨Nat.le_of_ble_eq_true rfl, Nat.le_of_ble_eq_true rfl⟩, X.1.2.2.2.2 _ (sf_memc tw_373), trivial⟩ rfl rfl (Nat.le_of_ble_eq_true rfl) dX4_senseOfAtom_81 rfl ?_
          exact sf_reti X h dX4_senseOfAtom_84
        · have h := sf_ift c6 h
          refine sf_aload_n (i := 0) (j := 0) X dX4_senseOfAtom_68 rfl rfl rfl ?_
          refine sf_getR (C := RX4) (T := TX4) (N := 4) (ci := 4) (j := 3) (k' := 21) X (fun w h => sf_memc (inX4 w h)) rfl rfl (by decide) (X.1.2.2.2.2 _ (sf_memc tw_135)) (fun _ h9 => h9) rfl dX4_senseOfAtom_69 rfl ?_
          refine sf_iconst (v := 3) X dX4_senseOfAtom_72 sf_ic_3 rfl ?_
          refine sf_iald X rfl (sf_inD rfl) dX4_senseOfAtom_73 rfl ?_
          refine sf_goto (tgt := 78) X dX4_senseOfAtom_74 rfl ?_
          obtain ⟨r15, τ14, hR13, h⟩ := h
          refine sf_callVi (As := [.ref (q 1), .int u0, .int (σ 21 (sf_ix (3 : Int32)))]) (rest := []) (cv := (RX4, TX4, 4)) X rfl rfl (c_X4_determinant hq hR13) (cwV 3 X.1.2.2.2.2 (sf_gV tw_359 tw_361 tw_1 tw_43 tw_362) rfl rfl rfl ⟨rfl, hd_X4_determinant⟩ ⟨Nat.le_of_ble_eq_true rfl, Nat.le_of_ble_eq_true rfl⟩) rfl rfl (Nat.le_of_ble_eq_true rfl) dX4_senseOfAtom_78 rfl ?_
          obtain ⟨r18, τ17, hR16, h⟩ := h
          refine sf_callSNi (As := [.int r15]) (rest := []) X (c_X6_sign hq hR16) ⟨va_cnB 1 X.1.2.2.2.2 (sf_good1 tw_374) rfl rfl rfl (X.2.2.2.1.2.2.1 _ (List.mem_of_getElem? (i := 1) rfl)) (X.1.2.2.2.2 _ (sf_memc tw_41)) hd_X6_sign ⟨Nat.le_of_ble_eq_true rfl, Nat.le_of_ble_eq_true rfl⟩, X.1.2.2.2.2 _ (sf_memc tw_373), trivial⟩ rfl rfl (Nat.le_of_ble_eq_true rfl) dX4_senseOfAtom_81 rfl ?_
          exact sf_reti X h dX4_senseOfAtom_84
      · have h := sf_iff c5 h
        refine sf_aload_n (i := 1) (j := 1) X dX4_senseOfAtom_24 rfl rfl rfl ?_
        refine sf_iload_n (i := 2) (j := 2) X dX4_senseOfAtom_25 rfl rfl rfl ?_
        refine sf_iload (i := 4) (j := 4) X dX4_senseOfAtom_26 rfl rfl ?_
        obtain ⟨r21, τ20, hR19, h⟩ := h
        refine sf_callVi (As := [.int u0, .int u2]) (rest := []) (cv := (RX0, TX0, 10)) X rfl rfl (c_X0_areBonded hq hR19) (cwV 2 X.1.2.2.2.2 (sf_gV tw_358 tw_283 tw_284 tw_42 tw_285) rfl rfl rfl ⟨rfl, hd_X0_areBonded⟩ ⟨Nat.le_of_ble_eq_true rfl, Nat.le_of_ble_eq_true rfl⟩) rfl rfl (Nat.le_of_ble_eq_true rfl) dX4_senseOfAtom_28 rfl ?_
        refine sf_if_eq (tgt := 54) X dX4_senseOfAtom_31 rfl rfl (fun c22 => ?_) (fun c22 => ?_)
        · have h := sf_ift c22 h
          refine sf_iinc (i := 4) (j := 4) (d := 1) (lv' := fun y23 => [(4, .int y23), (0, .ref (q 17)), (1, .ref (q 1)), (2, .int u0), (3, .int u1)]) X dX4_senseOfAtom_54 rfl sf_ic_1 (by decide) (fun _ => rfl) rfl (fun y23 hy23 => ?_)
          have h := h y23 hy23
          refine sf_goto (tgt := 15) X dX4_senseOfAtom_57 rfl ?_
          refine sf_loc (lv' := [(0, .ref (q 17)), (1, .ref (q 1)), (2, .int u0), (3, .int u1), (4, .int y23)]) [1, 2, 3, 4, 0] rfl ?_
          exact h
        · have h := sf_iff c22 h
          refine sf_iload_n (i := 3) (j := 3) X dX4_senseOfAtom_34 rfl rfl rfl ?_
          refine sf_aload_n (i := 0) (j := 0) X dX4_senseOfAtom_35 rfl rfl rfl ?_
          refine sf_getR (C := RX4) (T := TX4) (N := 4) (ci := 4) (j := 3) (k' := 21) X (fun w h => sf_memc (inX4 w h)) rfl rfl (by decide) (X.1.2.2.2.2 _ (sf_memc tw_135)) (fun _ h9 => h9) rfl dX4_senseOfAtom_36 rfl ?_
          refine sf_alen (t := 0) (ty := .int) (v := 4) X rfl (by decide) rfl (by decide) dX4_senseOfAtom_39 rfl ?_
          refine sf_icmp_ge (tgt := 54) X dX4_senseOfAtom_40 rfl rfl (fun c24 => ?_) (fun c24 => ?_)
          · have h := sf_ift c24 h
            refine sf_iinc (i := 4) (j := 4) (d := 1) (lv' := fun y25 => [(4, .int y25), (0, .ref (q 17)), (1, .ref (q 1)), (2, .int u0), (3, .int u1)]) X dX4_senseOfAtom_54 rfl sf_ic_1 (by decide) (fun _ => rfl) rfl (fun y25 hy25 => ?_)
            have h := h y25 hy25
            refine sf_goto (tgt := 15) X dX4_senseOfAtom_57 rfl ?_
            refine sf_loc (lv' := [(0, .ref (q 17)), (1, .ref (q 1)), (2, .int u0), (3, .int u1), (4, .int y25)]) [1, 2, 3, 4, 0] rfl ?_
            exact h
          · have h := sf_iff c24 h
            refine sf_aload_n (i := 0) (j := 0) X dX4_senseOfAtom_43 rfl rfl rfl ?_
            refine sf_getR (C := RX4) (T := TX4) (N := 4) (ci := 4) (j := 3) (k' := 21) X (fun w h => sf_memc (inX4 w h)) rfl rfl (by decide) (X.1.2.2.2.2 _ (sf_memc tw_135)) (fun _ h9 => h9) rfl dX4_senseOfAtom_44 rfl ?_
            refine sf_iload_n (i := 3) (j := 3) X dX4_senseOfAtom_47 rfl rfl rfl ?_
            refine sf_iload (i := 4) (j := 4) X dX4_senseOfAtom_48 rfl rfl ?_
            obtain ⟨b26, h⟩ := h
            refine sf_iast X rfl b26 dX4_senseOfAtom_50 rfl (fun τ27 hτ27 => ?_)
            have h := h τ27 hτ27
            refine sf_iinc (i := 3) (j := 3) (d := 1) (lv' := fun y28 => [(3, .int y28), (0, .ref (q 17)), (1, .ref (q 1)), (2, .int u0), (4, .int u2)]) X dX4_senseOfAtom_51 rfl sf_ic_1 (by decide) (fun _ => rfl) rfl (fun y28 hy28 => ?_)
            have h := h y28 hy28
            refine sf_iinc (i := 4) (j := 4) (d := 1) (lv' := fun y29 => [(4, .int y29), (3, .int y28), (0, .ref (q 17)), (1, .ref (q 1)), (2, .int u0)]) X dX4_senseOfAtom_54 rfl sf_ic_1 (by decide) (fun _ => rfl) rfl (fun y29 hy29 => ?_)
            have h := h y29 hy29
            refine sf_goto (tgt := 15) X dX4_senseOfAtom_57 rfl ?_
            refine sf_loc (lv' := [(0, .ref (q 17)), (1, .ref (q 1)), (2, .int u0), (3, .int y28), (4, .int y29)]) [2, 3, 4, 1, 0] rfl ?_
            exact h
  | (_ + 2), _ => exact trivial
def R_X6_sense (σ : sf_St) (u0 : Int32) (r : Int32) (τ : sf_St) : Prop :=
  ∃ (r3 : Int32) (τ2 : sf_St), R_X0_hasAtom σ u0 r3 τ2 ∧ (if r3 = (0 : Int32) then (r = (-1 : Int32) ∧ τ = τ2) else (∃ (r7 : Int32) (τ6 : sf_St), R_X4_senseOfAtom τ2 u0 r7 τ6 ∧ (∃ (r10 : Int32) (τ9 : sf_St), R_X0_isCentre τ6 u0 r10 τ9 ∧ (if r10 = (0 : Int32) then (r = ((r7 + (1 : Int32)) + (0 : Int32)) ∧ τ = τ9) else (r = ((r7 + (1 : Int32)) + (4 : Int32)) ∧ τ = τ9)))))
set_option maxHeartbeats 4000000 in
set_option maxRecDepth 100000 in
theorem c_X6_sense {l : Launch} {D : va_G} {q : Nat → Nat} {dA : Nat → ClassId} {tv ta tb : Nat} (hq : sf_inj q KX) {σ τ : sf_St} {u0 : Int32} {r : Int32} (h : R_X6_sense σ u0 r τ) : sf_Mi l yX6_sense wsX6_sense ({ frames := 4, cells := 0, slots := 0, locals := 104 }) D vwCl q dA KX (sf_EX q tv ta tb) [.ref (q 0), .int u0] σ r τ := by
  refine sf_meti (cc := cX6_sense) (maxL := 2) (ret := (some .int)) (own := RX6) (by decide +kernel) rfl rfl hq sf_EXk (Nat.le_of_ble_eq_true rfl) ?_
  intro p e s m args below meth c X
  have hT := X.2.2.2.1.2.1
  unfold R_X6_sense at h
  refine sf_loc (lv' := [(0, .ref (q 0)), (1, .int u0)]) [0, 1] rfl ?_
  refine sf_aload_n (i := 0) (j := 0) X dX6_sense_0 rfl rfl rfl ?_
  refine sf_getR (C := RX6) (T := TX6) (N := 11) (ci := 6) (j := 0) (k' := 1) X (fun w h => sf_memc (inX6 w h)) rfl rfl (by decide) (X.1.2.2.2.2 _ (sf_memc tw_224)) (fun _ h9 => h9) rfl dX6_sense_1 rfl ?_
  refine sf_iload_n (i := 1) (j := 1) X dX6_sense_4 rfl rfl rfl ?_
  obtain ⟨r3, τ2, hR1, h⟩ := h
  refine sf_callVi (As := [.int u0]) (rest := []) (cv := (RX0, TX0, 10)) X rfl rfl (c_X0_hasAtom hq hR1) (cwV 1 X.1.2.2.2.2 (sf_gV tw_275 tw_276 tw_277 tw_42 tw_278) rfl rfl rfl ⟨rfl, hd_X0_hasAtom⟩ ⟨Nat.le_of_ble_eq_true rfl, Nat.le_of_ble_eq_true rfl⟩) rfl rfl (Nat.le_of_ble_eq_true rfl) dX6_sense_5 rfl ?_
  refine sf_if_ne (tgt := 13) X dX6_sense_8 rfl rfl (fun c4 => ?_) (fun c4 => ?_)
  · have h := sf_iff c4 h
    refine sf_aload_n (i := 0) (j := 0) X dX6_sense_13 rfl rfl rfl ?_
    refine sf_getR (C := RX6) (T := TX6) (N := 11) (ci := 6) (j := 1) (k' := 17) X (fun w h => sf_memc (inX6 w h)) rfl rfl (by decide) (X.1.2.2.2.2 _ (sf_memc tw_225)) (fun _ h9 => h9) rfl dX6_sense_14 rfl ?_
    refine sf_aload_n (i := 0) (j := 0) X dX6_sense_17 rfl rfl rfl ?_
    refine sf_getR (C := RX6) (T := TX6) (N := 11) (ci := 6) (j := 0) (k' := 1) X (fun w h => sf_memc (inX6 w h)) rfl rfl (by decide) (X.1.2.2.2.2 _ (sf_memc tw_224)) (fun _ h9 => h9) rfl dX6_sense_18 rfl ?_
    refine sf_iload_n (i := 1) (j := 1) X dX6_sense_21 rfl rfl rfl ?_
    obtain ⟨r7, τ6, hR5, h⟩ := h
    refine sf_callVi (As := [.ref (q 1), .int u0]) (rest := []) (cv := (RX4, TX4, 4)) X rfl rfl (c_X4_senseOfAtom hq hR5) (cwV 2 X.1.2.2.2.2 (sf_gV tw_346 tw_347 tw_348 tw_43 tw_349) rfl rfl rfl ⟨rfl, hd_X4_senseOfAtom⟩ ⟨Nat.le_of_ble_eq_true rfl, Nat.le_of_ble_eq_true rfl⟩) rfl rfl (Nat.le_of_ble_eq_true rfl) dX6_sense_22 rfl ?_
    refine sf_iconst (v := 1) X dX6_sense_25 sf_ic_1 rfl ?_
    refine sf_iadd X dX6_sense_26 rfl ?_
    refine sf_aload_n (i := 0) (j := 0) X dX6_sense_27 rfl rfl rfl ?_
    refine sf_getR (C := RX6) (T := TX6) (N := 11) (ci := 6) (j := 0) (k' := 1) X (fun w h => sf_memc (inX6 w h)) rfl rfl (by decide) (X.1.2.2.2.2 _ (sf_memc tw_224)) (fun _ h9 => h9) rfl dX6_sense_28 rfl ?_
    refine sf_iload_n (i := 1) (j := 1) X dX6_sense_31 rfl rfl rfl ?_
    obtain ⟨r10, τ9, hR8, h⟩ := h
    refine sf_callVi (As := [.int u0]) (rest := [.int (r7 + (1 : Int32))]) (cv := (RX0, TX0, 10)) X rfl rfl (c_X0_isCentre hq hR8) (cwV 1 X.1.2.2.2.2 (sf_gV tw_375 tw_351 tw_352 tw_42 tw_353) rfl rfl rfl ⟨rfl, hd_X0_isCentre⟩ ⟨Nat.le_of_ble_eq_true rfl, Nat.le_of_ble_eq_true rfl⟩) rfl rfl (Nat.le_of_ble_eq_true rfl) dX6_sense_32 rfl ?_
    refine sf_if_eq (tgt := 42) X dX6_sense_35 rfl rfl (fun c11 => ?_) (fun c11 => ?_)
    · have h := sf_ift c11 h
      refine sf_iconst (v := 0) X dX6_sense_42 sf_ic_0 rfl ?_
      refine sf_iadd X dX6_sense_43 rfl ?_
      exact sf_reti X h dX6_sense_44
    · have h := sf_iff c11 h
      refine sf_iconst (v := 4) X dX6_sense_38 sf_ic_4 rfl ?_
      refine sf_goto (tgt := 43) X dX6_sense_39 rfl ?_
      refine sf_iadd X dX6_sense_43 rfl ?_
      exact sf_reti X h dX6_sense_44
  · have h := sf_ift c4 h
    refine sf_iconst (v := (-1)) X dX6_sense_11 sf_ic_m1 rfl ?_
    exact sf_reti X h dX6_sense_12
def R_X0_isHingeEnd (σ : sf_St) (u0 u1 : Int32) (r : Int32) (τ : sf_St) : Prop :=
  ∃ (r3 : Int32) (τ2 : sf_St), R_X0_singleBonds σ u0 u1 r3 τ2 ∧ (vp_in u0 7 ∧ (if (τ2 2 (sf_ix u0)) = (0 : Int32) then (if r3 = (1 : Int32) then (r = (1 : Int32) ∧ τ = τ2) else (if r3 = (2 : Int32) then (r = (1 : Int32) ∧ τ = τ2) else (r = (0 : Int32) ∧ τ = τ2))) else (vp_in u0 7 ∧ (if (τ2 2 (sf_ix u0)) = (1 : Int32) then (if r3 = (1 : Int32) then (r = (1 : Int32) ∧ τ = τ2) else (if r3 = (2 : Int32) then (r = (1 : Int32) ∧ τ = τ2) else (r = (0 : Int32) ∧ τ = τ2))) else (r = (0 : Int32) ∧ τ = τ2)))))
set_option maxHeartbeats 4000000 in
set_option maxRecDepth 100000 in
theorem c_X0_isHingeEnd {l : Launch} {D : va_G} {q : Nat → Nat} {dA : Nat → ClassId} {tv ta tb : Nat} (hq : sf_inj q KX) {σ τ : sf_St} {u0 u1 : Int32} {r : Int32} (h : R_X0_isHingeEnd σ u0 u1 r τ) : sf_Mi l yX0_isHingeEnd wsX0_isHingeEnd ({ frames := 2, cells := 0, slots := 0, locals := 48 }) D vwCl q dA KX (sf_EX q tv ta tb) [.ref (q 1), .int u0, .int u1] σ r τ := by
  refine sf_meti (cc := cX0_isHingeEnd) (maxL := 4) (ret := (some .boolean)) (own := RX0) (by decide +kernel) rfl rfl hq sf_EXk (Nat.le_of_ble_eq_true rfl) ?_
  intro p e s m args below meth c X
  have hT := X.2.2.2.1.2.1
  unfold R_X0_isHingeEnd at h
  refine sf_loc (lv' := [(0, .ref (q 1)), (1, .int u0), (2, .int u1)]) [0, 1, 2] rfl ?_
  refine sf_aload_n (i := 0) (j := 0) X dX0_isHingeEnd_0 rfl rfl rfl ?_
  refine sf_iload_n (i := 1) (j := 1) X dX0_isHingeEnd_1 rfl rfl rfl ?_
  refine sf_iload_n (i := 2) (j := 2) X dX0_isHingeEnd_2 rfl rfl rfl ?_
  obtain ⟨r3, τ2, hR1, h⟩ := h
  refine sf_callVi (As := [.int u0, .int u1]) (rest := []) (cv := (RX0, TX0, 10)) X rfl rfl (c_X0_singleBonds hq hR1) (cwV 2 X.1.2.2.2.2 (sf_gV tw_354 tw_356 tw_0 tw_42 tw_357) rfl rfl rfl ⟨rfl, hd_X0_singleBonds⟩ ⟨Nat.le_of_ble_eq_true rfl, Nat.le_of_ble_eq_true rfl⟩) rfl rfl (Nat.le_of_ble_eq_true rfl) dX0_isHingeEnd_3 rfl ?_
  refine sf_istore_n (i := 3) (lv' := [(3, .int r3), (0, .ref (q 1)), (1, .int u0), (2, .int u1)]) X dX0_isHingeEnd_6 rfl (by decide) rfl rfl ?_
  refine sf_aload_n (i := 0) (j := 1) X dX0_isHingeEnd_7 rfl rfl rfl ?_
  refine sf_getR (C := RX0) (T := TX0) (N := 10) (ci := 0) (j := 0) (k' := 2) X (fun w h => sf_memc (inX0 w h)) rfl rfl (by decide) (X.1.2.2.2.2 _ (sf_memc tw_72)) (fun _ h9 => h9) rfl dX0_isHingeEnd_8 rfl ?_
  refine sf_iload_n (i := 1) (j := 2) X dX0_isHingeEnd_11 rfl rfl rfl ?_
  obtain ⟨b4, h⟩ := h
  refine sf_iald X rfl b4 dX0_isHingeEnd_12 rfl ?_
  refine sf_if_eq (tgt := 26) X dX0_isHingeEnd_13 rfl rfl (fun c5 => ?_) (fun c5 => ?_)
  · have h := sf_ift c5 h
    refine sf_iload_n (i := 3) (j := 0) X dX0_isHingeEnd_26 rfl rfl rfl ?_
    refine sf_iconst (v := 1) X dX0_isHingeEnd_27 sf_ic_1 rfl ?_
    refine sf_icmp_eq (tgt := 36) X dX0_isHingeEnd_28 rfl rfl (fun c6 => ?_) (fun c6 => ?_)
    · have h := sf_ift c6 h
      refine sf_iconst (v := 1) X dX0_isHingeEnd_36 sf_ic_1 rfl ?_
      refine sf_goto (tgt := 41) X dX0_isHingeEnd_37 rfl ?_
      exact sf_retz X h rfl dX0_isHingeEnd_41
    · have h := sf_iff c6 h
      refine sf_iload_n (i := 3) (j := 0) X dX0_isHingeEnd_31 rfl rfl rfl ?_
      refine sf_iconst (v := 2) X dX0_isHingeEnd_32 sf_ic_2 rfl ?_
      refine sf_icmp_ne (tgt := 40) X dX0_isHingeEnd_33 rfl rfl (fun c7 => ?_) (fun c7 => ?_)
      · have h := sf_iff c7 h
        refine sf_iconst (v := 0) X dX0_isHingeEnd_40 sf_ic_0 rfl ?_
        exact sf_retz X h rfl dX0_isHingeEnd_41
      · have h := sf_ift c7 h
        refine sf_iconst (v := 1) X dX0_isHingeEnd_36 sf_ic_1 rfl ?_
        refine sf_goto (tgt := 41) X dX0_isHingeEnd_37 rfl ?_
        exact sf_retz X h rfl dX0_isHingeEnd_41
  · have h := sf_iff c5 h
    refine sf_aload_n (i := 0) (j := 1) X dX0_isHingeEnd_16 rfl rfl rfl ?_
    refine sf_getR (C := RX0) (T := TX0) (N := 10) (ci := 0) (j := 0) (k' := 2) X (fun w h => sf_memc (inX0 w h)) rfl rfl (by decide) (X.1.2.2.2.2 _ (sf_memc tw_72)) (fun _ h9 => h9) rfl dX0_isHingeEnd_17 rfl ?_
    refine sf_iload_n (i := 1) (j := 2) X dX0_isHingeEnd_20 rfl rfl rfl ?_
    obtain ⟨b8, h⟩ := h
    refine sf_iald X rfl b8 dX0_isHingeEnd_21 rfl ?_
    refine sf_iconst (v := 1) X dX0_isHingeEnd_22 sf_ic_1 rfl ?_
    refine sf_icmp_ne (tgt := 40) X dX0_isHingeEnd_23 rfl rfl (fun c9 => ?_) (fun c9 => ?_)
    · have h := sf_iff c9 h
      refine sf_iconst (v := 0) X dX0_isHingeEnd_40 sf_ic_0 rfl ?_
      exact sf_retz X h rfl dX0_isHingeEnd_41
    · have h := sf_ift c9 h
      refine sf_iload_n (i := 3) (j := 0) X dX0_isHingeEnd_26 rfl rfl rfl ?_
      refine sf_iconst (v := 1) X dX0_isHingeEnd_27 sf_ic_1 rfl ?_
      refine sf_icmp_eq (tgt := 36) X dX0_isHingeEnd_28 rfl rfl (fun c10 => ?_) (fun c10 => ?_)
      · have h := sf_ift c10 h
        refine sf_iconst (v := 1) X dX0_isHingeEnd_36 sf_ic_1 rfl ?_
        refine sf_goto (tgt := 41) X dX0_isHingeEnd_37 rfl ?_
        exact sf_retz X h rfl dX0_isHingeEnd_41
      · have h := sf_iff c10 h
        refine sf_iload_n (i := 3) (j := 0) X dX0_isHingeEnd_31 rfl rfl rfl ?_
        refine sf_iconst (v := 2) X dX0_isHingeEnd_32 sf_ic_2 rfl ?_
        refine sf_icmp_ne (tgt := 40) X dX0_isHingeEnd_33 rfl rfl (fun c11 => ?_) (fun c11 => ?_)
        · have h := sf_iff c11 h
          refine sf_iconst (v := 0) X dX0_isHingeEnd_40 sf_ic_0 rfl ?_
          exact sf_retz X h rfl dX0_isHingeEnd_41
        · have h := sf_ift c11 h
          refine sf_iconst (v := 1) X dX0_isHingeEnd_36 sf_ic_1 rfl ?_
          refine sf_goto (tgt := 41) X dX0_isHingeEnd_37 rfl ?_
          exact sf_retz X h rfl dX0_isHingeEnd_41
def R_X0_isHinge (σ : sf_St) (u0 : Int32) (r : Int32) (τ : sf_St) : Prop :=
  vp_in u0 9 ∧ (if (σ 7 (sf_ix u0)) = (2 : Int32) then (vp_in u0 9 ∧ (vp_in u0 9 ∧ (∃ (r7 : Int32) (τ6 : sf_St), R_X0_isHingeEnd σ (σ 5 (sf_ix u0)) (σ 6 (sf_ix u0)) r7 τ6 ∧ (if r7 = (0 : Int32) then (r = (0 : Int32) ∧ τ = τ6) else (vp_in u0 9 ∧ (vp_in u0 9 ∧ (∃ (r13 : Int32) (τ12 : sf_St), R_X0_isHingeEnd τ6 (τ6 6 (sf_ix u0)) (τ6 5 (sf_ix u0)) r13 τ12 ∧ (if r13 = (0 : Int32) then (r = (0 : Int32) ∧ τ = τ12) else (r = (1 : Int32) ∧ τ = τ12))))))))) else (r = (0 : Int32) ∧ τ = σ))
set_option maxHeartbeats 4000000 in
set_option maxRecDepth 100000 in
theorem c_X0_isHinge {l : Launch} {D : va_G} {q : Nat → Nat} {dA : Nat → ClassId} {tv ta tb : Nat} (hq : sf_inj q KX) {σ τ : sf_St} {u0 : Int32} {r : Int32} (h : R_X0_isHinge σ u0 r τ) : sf_Mi l yX0_isHinge wsX0_isHinge ({ frames := 3, cells := 0, slots := 0, locals := 71 }) D vwCl q dA KX (sf_EX q tv ta tb) [.ref (q 1), .int u0] σ r τ := by
  refine sf_meti (cc := cX0_isHinge) (maxL := 2) (ret := (some .boolean)) (own := RX0) (by decide +kernel) rfl rfl hq sf_EXk (Nat.le_of_ble_eq_true rfl) ?_
  intro p e s m args below meth c X
  have hT := X.2.2.2.1.2.1
  unfold R_X0_isHinge at h
  refine sf_loc (lv' := [(0, .ref (q 1)), (1, .int u0)]) [0, 1] rfl ?_
  refine sf_aload_n (i := 0) (j := 0) X dX0_isHinge_0 rfl rfl rfl ?_
  refine sf_getR (C := RX0) (T := TX0) (N := 10) (ci := 0) (j := 6) (k' := 7) X (fun w h => sf_memc (inX0 w h)) rfl rfl (by decide) (X.1.2.2.2.2 _ (sf_memc tw_93)) (fun _ h9 => h9) rfl dX0_isHinge_1 rfl ?_
  refine sf_iload_n (i := 1) (j := 1) X dX0_isHinge_4 rfl rfl rfl ?_
  obtain ⟨b1, h⟩ := h
  refine sf_iald X rfl b1 dX0_isHinge_5 rfl ?_
  refine sf_iconst (v := 2) X dX0_isHinge_6 sf_ic_2 rfl ?_
  refine sf_icmp_ne (tgt := 52) X dX0_isHinge_7 rfl rfl (fun c2 => ?_) (fun c2 => ?_)
  · have h := sf_iff c2 h
    refine sf_iconst (v := 0) X dX0_isHinge_52 sf_ic_0 rfl ?_
    exact sf_retz X h rfl dX0_isHinge_53
  · have h := sf_ift c2 h
    refine sf_aload_n (i := 0) (j := 0) X dX0_isHinge_10 rfl rfl rfl ?_
    refine sf_aload_n (i := 0) (j := 0) X dX0_isHinge_11 rfl rfl rfl ?_
    refine sf_getR (C := RX0) (T := TX0) (N := 10) (ci := 0) (j := 4) (k' := 5) X (fun w h => sf_memc (inX0 w h)) rfl rfl (by decide) (X.1.2.2.2.2 _ (sf_memc tw_87)) (fun _ h9 => h9) rfl dX0_isHinge_12 rfl ?_
    refine sf_iload_n (i := 1) (j := 1) X dX0_isHinge_15 rfl rfl rfl ?_
    obtain ⟨b3, h⟩ := h
    refine sf_iald X rfl b3 dX0_isHinge_16 rfl ?_
    refine sf_aload_n (i := 0) (j := 0) X dX0_isHinge_17 rfl rfl rfl ?_
    refine sf_getR (C := RX0) (T := TX0) (N := 10) (ci := 0) (j := 5) (k' := 6) X (fun w h => sf_memc (inX0 w h)) rfl rfl (by decide) (X.1.2.2.2.2 _ (sf_memc tw_90)) (fun _ h9 => h9) rfl dX0_isHinge_18 rfl ?_
    refine sf_iload_n (i := 1) (j := 1) X dX0_isHinge_21 rfl rfl rfl ?_
    obtain ⟨b4, h⟩ := h
    refine sf_iald X rfl b4 dX0_isHinge_22 rfl ?_
    obtain ⟨r7, τ6, hR5, h⟩ := h
    refine sf_callVi (As := [.int (σ 5 (sf_ix u0)), .int (σ 6 (sf_ix u0))]) (rest := []) (cv := (RX0, TX0, 10)) X rfl rfl (c_X0_isHingeEnd hq hR5) (cwV 2 X.1.2.2.2.2 (sf_gV tw_388 tw_390 tw_2 tw_42 tw_391) rfl rfl rfl ⟨rfl, hd_X0_isHingeEnd⟩ ⟨Nat.le_of_ble_eq_true rfl, Nat.le_of_ble_eq_true rfl⟩) rfl rfl (Nat.le_of_ble_eq_true rfl) dX0_isHinge_23 rfl ?_
    refine sf_if_eq (tgt := 52) X dX0_isHinge_26 rfl rfl (fun c8 => ?_) (fun c8 => ?_)
    · have h := sf_ift c8 h
      refine sf_iconst (v := 0) X dX0_isHinge_52 sf_ic_0 rfl ?_
      exact sf_retz X h rfl dX0_isHinge_53
    · have h := sf_iff c8 h
      refine sf_aload_n (i := 0) (j := 0) X dX0_isHinge_29 rfl rfl rfl ?_
      refine sf_aload_n (i := 0) (j := 0) X dX0_isHinge_30 rfl rfl rfl ?_
      refine sf_getR (C := RX0) (T := TX0) (N := 10) (ci := 0) (j := 5) (k' := 6) X (fun w h => sf_memc (inX0 w h)) rfl rfl (by decide) (X.1.2.2.2.2 _ (sf_memc tw_90)) (fun _ h9 => h9) rfl dX0_isHinge_31 rfl ?_
      refine sf_iload_n (i := 1) (j := 1) X dX0_isHinge_34 rfl rfl rfl ?_
      obtain ⟨b9, h⟩ := h
      refine sf_iald X rfl b9 dX0_isHinge_35 rfl ?_
      refine sf_aload_n (i := 0) (j := 0) X dX0_isHinge_36 rfl rfl rfl ?_
      refine sf_getR (C := RX0) (T := TX0) (N := 10) (ci := 0) (j := 4) (k' := 5) X (fun w h => sf_memc (inX0 w h)) rfl rfl (by decide) (X.1.2.2.2.2 _ (sf_memc tw_87)) (fun _ h9 => h9) rfl dX0_isHinge_37 rfl ?_
      refine sf_iload_n (i := 1) (j := 1) X dX0_isHinge_40 rfl rfl rfl ?_
      obtain ⟨b10, h⟩ := h
      refine sf_iald X rfl b10 dX0_isHinge_41 rfl ?_
      obtain ⟨r13, τ12, hR11, h⟩ := h
      refine sf_callVi (As := [.int (τ6 6 (sf_ix u0)), .int (τ6 5 (sf_ix u0))]) (rest := []) (cv := (RX0, TX0, 10)) X rfl rfl (c_X0_isHingeEnd hq hR11) (cwV 2 X.1.2.2.2.2 (sf_gV tw_388 tw_390 tw_2 tw_42 tw_391) rfl rfl rfl ⟨rfl, hd_X0_isHingeEnd⟩ ⟨Nat.le_of_ble_eq_true rfl, Nat.le_of_ble_eq_true rfl⟩) rfl rfl (Nat.le_of_ble_eq_true rfl) dX0_isHinge_42 rfl ?_
      refine sf_if_eq (tgt := 52) X dX0_isHinge_45 rfl rfl (fun c14 => ?_) (fun c14 => ?_)
      · have h := sf_ift c14 h
        refine sf_iconst (v := 0) X dX0_isHinge_52 sf_ic_0 rfl ?_
        exact sf_retz X h rfl dX0_isHinge_53
      · have h := sf_iff c14 h
        refine sf_iconst (v := 1) X dX0_isHinge_48 sf_ic_1 rfl ?_
        refine sf_goto (tgt := 53) X dX0_isHinge_49 rfl ?_
        exact sf_retz X h rfl dX0_isHinge_53
def R_X0_side (σ : sf_St) (u0 u1 u2 : Int32) (r : Int32) (τ : sf_St) : Prop :=
  vp_in u1 7 ∧ (vp_in u0 7 ∧ (vp_in u2 7 ∧ (vp_in u0 7 ∧ (vp_in u1 7 ∧ (vp_in u0 7 ∧ (vp_in u2 7 ∧ (vp_in u0 7 ∧ (∃ (r11 : Int32) (τ10 : sf_St), R_X6_sign σ ((((σ 3 (sf_ix u1)) - (σ 3 (sf_ix u0))) * ((σ 4 (sf_ix u2)) - (σ 4 (sf_ix u0)))) - (((σ 4 (sf_ix u1)) - (σ 4 (sf_ix u0))) * ((σ 3 (sf_ix u2)) - (σ 3 (sf_ix u0))))) r11 τ10 ∧ (r = r11 ∧ τ = τ10)))))))))
set_option maxHeartbeats 4000000 in
set_option maxRecDepth 100000 in
theorem c_X0_side {l : Launch} {D : va_G} {q : Nat → Nat} {dA : Nat → ClassId} {tv ta tb : Nat} (hq : sf_inj q KX) {σ τ : sf_St} {u0 u1 u2 : Int32} {r : Int32} (h : R_X0_side σ u0 u1 u2 r τ) : sf_Mi l yX0_side wsX0_side ({ frames := 1, cells := 0, slots := 0, locals := 20 }) D vwCl q dA KX (sf_EX q tv ta tb) [.ref (q 1), .int u0, .int u1, .int u2] σ r τ := by
  refine sf_meti (cc := cX0_side) (maxL := 4) (ret := (some .int)) (own := RX0) (by decide +kernel) rfl rfl hq sf_EXk (Nat.le_of_ble_eq_true rfl) ?_
  intro p e s m args below meth c X
  have hT := X.2.2.2.1.2.1
  unfold R_X0_side at h
  refine sf_loc (lv' := [(0, .ref (q 1)), (1, .int u0), (2, .int u1), (3, .int u2)]) [0, 1, 2, 3] rfl ?_
  refine sf_aload_n (i := 0) (j := 0) X dX0_side_0 rfl rfl rfl ?_
  refine sf_getR (C := RX0) (T := TX0) (N := 10) (ci := 0) (j := 1) (k' := 3) X (fun w h => sf_memc (inX0 w h)) rfl rfl (by decide) (X.1.2.2.2.2 _ (sf_memc tw_75)) (fun _ h9 => h9) rfl dX0_side_1 rfl ?_
  refine sf_iload_n (i := 2) (j := 2) X dX0_side_4 rfl rfl rfl ?_
  obtain ⟨b1, h⟩ := h
  refine sf_iald X rfl b1 dX0_side_5 rfl ?_
  refine sf_aload_n (i := 0) (j := 0) X dX0_side_6 rfl rfl rfl ?_
  refine sf_getR (C := RX0) (T := TX0) (N := 10) (ci := 0) (j := 1) (k' := 3) X (fun w h => sf_memc (inX0 w h)) rfl rfl (by decide) (X.1.2.2.2.2 _ (sf_memc tw_75)) (fun _ h9 => h9) rfl dX0_side_7 rfl ?_
  refine sf_iload_n (i := 1) (j := 1) X dX0_side_10 rfl rfl rfl ?_
  obtain ⟨b2, h⟩ := h
  refine sf_iald X rfl b2 dX0_side_11 rfl ?_
  refine sf_isub X dX0_side_12 rfl ?_
  refine sf_aload_n (i := 0) (j := 0) X dX0_side_13 rfl rfl rfl ?_
  refine sf_getR (C := RX0) (T := TX0) (N := 10) (ci := 0) (j := 2) (k' := 4) X (fun w h => sf_memc (inX0 w h)) rfl rfl (by decide) (X.1.2.2.2.2 _ (sf_memc tw_78)) (fun _ h9 => h9) rfl dX0_side_14 rfl ?_
  refine sf_iload_n (i := 3) (j := 3) X dX0_side_17 rfl rfl rfl ?_
  obtain ⟨b3, h⟩ := h
  refine sf_iald X rfl b3 dX0_side_18 rfl ?_
  refine sf_aload_n (i := 0) (j := 0) X dX0_side_19 rfl rfl rfl ?_
  refine sf_getR (C := RX0) (T := TX0) (N := 10) (ci := 0) (j := 2) (k' := 4) X (fun w h => sf_memc (inX0 w h)) rfl rfl (by decide) (X.1.2.2.2.2 _ (sf_memc tw_78)) (fun _ h9 => h9) rfl dX0_side_20 rfl ?_
  refine sf_iload_n (i := 1) (j := 1) X dX0_side_23 rfl rfl rfl ?_
  obtain ⟨b4, h⟩ := h
  refine sf_iald X rfl b4 dX0_side_24 rfl ?_
  refine sf_isub X dX0_side_25 rfl ?_
  refine sf_imul X dX0_side_26 rfl ?_
  refine sf_aload_n (i := 0) (j := 0) X dX0_side_27 rfl rfl rfl ?_
  refine sf_getR (C := RX0) (T := TX0) (N := 10) (ci := 0) (j := 2) (k' := 4) X (fun w h => sf_memc (inX0 w h)) rfl rfl (by decide) (X.1.2.2.2.2 _ (sf_memc tw_78)) (fun _ h9 => h9) rfl dX0_side_28 rfl ?_
  refine sf_iload_n (i := 2) (j := 2) X dX0_side_31 rfl rfl rfl ?_
  obtain ⟨b5, h⟩ := h
  refine sf_iald X rfl b5 dX0_side_32 rfl ?_
  refine sf_aload_n (i := 0) (j := 0) X dX0_side_33 rfl rfl rfl ?_
  refine sf_getR (C := RX0) (T := TX0) (N := 10) (ci := 0) (j := 2) (k' := 4) X (fun w h => sf_memc (inX0 w h)) rfl rfl (by decide) (X.1.2.2.2.2 _ (sf_memc tw_78)) (fun _ h9 => h9) rfl dX0_side_34 rfl ?_
  refine sf_iload_n (i := 1) (j := 1) X dX0_side_37 rfl rfl rfl ?_
  obtain ⟨b6, h⟩ := h
  refine sf_iald X rfl b6 dX0_side_38 rfl ?_
  refine sf_isub X dX0_side_39 rfl ?_
  refine sf_aload_n (i := 0) (j := 0) X dX0_side_40 rfl rfl rfl ?_
  refine sf_getR (C := RX0) (T := TX0) (N := 10) (ci := 0) (j := 1) (k' := 3) X (fun w h => sf_memc (inX0 w h)) rfl rfl (by decide) (X.1.2.2.2.2 _ (sf_memc tw_75)) (fun _ h9 => h9) rfl dX0_side_41 rfl ?_
  refine sf_iload_n (i := 3) (j := 3) X dX0_side_44 rfl rfl rfl ?_
  obtain ⟨b7, h⟩ := h
  refine sf_iald X rfl b7 dX0_side_45 rfl ?_
  refine sf_aload_n (i := 0) (j := 0) X dX0_side_46 rfl rfl rfl ?_
  refine sf_getR (C := RX0) (T := TX0) (N := 10) (ci := 0) (j := 1) (k' := 3) X (fun w h => sf_memc (inX0 w h)) rfl rfl (by decide) (X.1.2.2.2.2 _ (sf_memc tw_75)) (fun _ h9 => h9) rfl dX0_side_47 rfl ?_
  refine sf_iload_n (i := 1) (j := 1) X dX0_side_50 rfl rfl rfl ?_
  obtain ⟨b8, h⟩ := h
  refine sf_iald X rfl b8 dX0_side_51 rfl ?_
  refine sf_isub X dX0_side_52 rfl ?_
  refine sf_imul X dX0_side_53 rfl ?_
  refine sf_isub X dX0_side_54 rfl ?_
  obtain ⟨r11, τ10, hR9, h⟩ := h
  refine sf_callSNi (As := [.int ((((σ 3 (sf_ix u1)) - (σ 3 (sf_ix u0))) * ((σ 4 (sf_ix u2)) - (σ 4 (sf_ix u0)))) - (((σ 4 (sf_ix u1)) - (σ 4 (sf_ix u0))) * ((σ 3 (sf_ix u2)) - (σ 3 (sf_ix u0)))))]) (rest := []) X (c_X6_sign hq hR9) ⟨va_cnB 1 X.1.2.2.2.2 (sf_good1 tw_374) rfl rfl rfl (X.2.2.2.1.2.2.1 _ (List.mem_of_getElem? (i := 2) rfl)) (X.1.2.2.2.2 _ (sf_memc tw_41)) hd_X6_sign ⟨Nat.le_of_ble_eq_true rfl, Nat.le_of_ble_eq_true rfl⟩, X.1.2.2.2.2 _ (sf_memc tw_373), trivial⟩ rfl rfl (Nat.le_of_ble_eq_true rfl) dX0_side_55 rfl ?_
  exact sf_reti X h dX0_side_58
def tr_R_X4_sideOfEnd_0 (Pr : Nat → sf_St → Int32 → Int32 → Int32 → Int32 → Int32 → Prop) (r : Int32) (τ : sf_St) (σ : sf_St) (u0 u1 u2 u3 u4 : Int32) : Prop :=
  Pr 1 σ u0 u1 u2 (0 : Int32) (0 : Int32)
def tr_R_X4_sideOfEnd_1 (Pr : Nat → sf_St → Int32 → Int32 → Int32 → Int32 → Int32 → Prop) (r : Int32) (τ : sf_St) (σ : sf_St) (u0 u1 u2 u3 u4 : Int32) : Prop :=
  if (σ 1 3) ≤ u4 then (r = u3 ∧ τ = σ) else (if u4 = u0 then (∀ y3 : Int32, y3 = u4 + (1 : Int32) → (Pr 1 σ u0 u1 u2 u3 y3)) else (if u4 = u1 then (∀ y5 : Int32, y5 = u4 + (1 : Int32) → (Pr 1 σ u0 u1 u2 u3 y5)) else (∃ (r8 : Int32) (τ7 : sf_St), R_X0_areBonded σ u2 u4 r8 τ7 ∧ (if r8 = (0 : Int32) then (∀ y10 : Int32, y10 = u4 + (1 : Int32) → (Pr 1 τ7 u0 u1 u2 u3 y10)) else (∃ (r13 : Int32) (τ12 : sf_St), R_X0_side τ7 u0 u1 u4 r13 τ12 ∧ (if r13 = (0 : Int32) then (r = (0 : Int32) ∧ τ = τ12) else (if r13 = u3 then (r = (0 : Int32) ∧ τ = τ12) else (if u3 = (0 : Int32) then (∀ y18 : Int32, y18 = u4 + (1 : Int32) → (Pr 1 τ12 u0 u1 u2 r13 y18)) else (∀ y17 : Int32, y17 = u4 + (1 : Int32) → (Pr 1 τ12 u0 u1 u2 u3 y17))))))))))
def fn_R_X4_sideOfEnd (Pr : Nat → sf_St → Int32 → Int32 → Int32 → Int32 → Int32 → Prop) (r : Int32) (τ : sf_St) (t : Nat) (σ : sf_St) (u0 u1 u2 u3 u4 : Int32) : Prop := match t with
  | 0 => tr_R_X4_sideOfEnd_0 Pr r τ σ u0 u1 u2 u3 u4
  | 1 => tr_R_X4_sideOfEnd_1 Pr r τ σ u0 u1 u2 u3 u4
  | _ => False
def Rn_R_X4_sideOfEnd (t : Nat) (σ : sf_St) (u0 u1 u2 u3 u4 : Int32) (r : Int32) (τ : sf_St) : Prop := ∀ Pr : Nat → sf_St → Int32 → Int32 → Int32 → Int32 → Int32 → Prop, (∀ (t : Nat) (σ : sf_St) (u0 u1 u2 u3 u4 : Int32), fn_R_X4_sideOfEnd Pr r τ t σ u0 u1 u2 u3 u4 → Pr t σ u0 u1 u2 u3 u4) → Pr t σ u0 u1 u2 u3 u4
def R_X4_sideOfEnd (σ : sf_St) (u0 u1 u2 : Int32) (r : Int32) (τ : sf_St) : Prop := Rn_R_X4_sideOfEnd 0 σ u0 u1 u2 0 0 r τ
theorem fe_R_X4_sideOfEnd_0 {Pr : Nat → sf_St → Int32 → Int32 → Int32 → Int32 → Int32 → Prop} {r : Int32} {τ σ : sf_St} {u0 u1 u2 u3 u4 : Int32} (h : fn_R_X4_sideOfEnd Pr r τ 0 σ u0 u1 u2 u3 u4) : tr_R_X4_sideOfEnd_0 Pr r τ σ u0 u1 u2 u3 u4 := h
theorem mo_R_X4_sideOfEnd_0 {Pr Pr' : Nat → sf_St → Int32 → Int32 → Int32 → Int32 → Int32 → Prop} {r : Int32} {τ σ : sf_St} {u0 u1 u2 u3 u4 : Int32} (hP : ∀ (t : Nat) (σ : sf_St) (u0 u1 u2 u3 u4 : Int32), Pr t σ u0 u1 u2 u3 u4 → Pr' t σ u0 u1 u2 u3 u4) (h : tr_R_X4_sideOfEnd_0 Pr r τ σ u0 u1 u2 u3 u4) : tr_R_X4_sideOfEnd_0 Pr' r τ σ u0 u1 u2 u3 u4 := by
  unfold tr_R_X4_sideOfEnd_0 at h ⊢
  exact hP _ _ _ _ _ _ _ h
theorem ru_R_X4_sideOfEnd_0 {r : Int32} {τ σ : sf_St} {u0 u1 u2 u3 u4 : Int32} (h : tr_R_X4_sideOfEnd_0 (fun t σ u0 u1 u2 u3 u4 => Rn_R_X4_sideOfEnd t σ u0 u1 u2 u3 u4 r τ) r τ σ u0 u1 u2 u3 u4) : Rn_R_X4_sideOfEnd 0 σ u0 u1 u2 u3 u4 r τ := fun Pr hP => hP 0 σ u0 u1 u2 u3 u4 (mo_R_X4_sideOfEnd_0 (fun _ _ _ _ _ _ _ h => h Pr hP) h)
theorem fe_R_X4_sideOfEnd_1 {Pr : Nat → sf_St → Int32 → Int32 → Int32 → Int32 → Int32 → Prop} {r : Int32} {τ σ : sf_St} {u0 u1 u2 u3 u4 : Int32} (h : fn_R_X4_sideOfEnd Pr r τ 1 σ u0 u1 u2 u3 u4) : tr_R_X4_sideOfEnd_1 Pr r τ σ u0 u1 u2 u3 u4 := h
theorem mo_R_X4_sideOfEnd_1 {Pr Pr' : Nat → sf_St → Int32 → Int32 → Int32 → Int32 → Int32 → Prop} {r : Int32} {τ σ : sf_St} {u0 u1 u2 u3 u4 : Int32} (hP : ∀ (t : Nat) (σ : sf_St) (u0 u1 u2 u3 u4 : Int32), Pr t σ u0 u1 u2 u3 u4 → Pr' t σ u0 u1 u2 u3 u4) (h : tr_R_X4_sideOfEnd_1 Pr r τ σ u0 u1 u2 u3 u4) : tr_R_X4_sideOfEnd_1 Pr' r τ σ u0 u1 u2 u3 u4 := by
  unfold tr_R_X4_sideOfEnd_1 at h ⊢
  refine sf_mif (fun h => ?_) (fun h => ?_) h
  · exact h
  · refine sf_mif (fun h => ?_) (fun h => ?_) h
    · intro y3 hy3
      have h := h y3 hy3
      exact hP _ _ _ _ _ _ _ h
    · refine sf_mif (fun h => ?_) (fun h => ?_) h
      · intro y5 hy5
        have h := h y5 hy5
        exact hP _ _ _ _ _ _ _ h
      · refine Exists.imp (fun _ h => Exists.imp (fun _ h => And.imp id (fun h => ?_) h) h) h
        refine sf_mif (fun h => ?_) (fun h => ?_) h
        · intro y10 hy10
          have h := h y10 hy10
          exact hP _ _ _ _ _ _ _ h
        · refine Exists.imp (fun _ h => Exists.imp (fun _ h => And.imp id (fun h => ?_) h) h) h
          refine sf_mif (fun h => ?_) (fun h => ?_) h
          · exact h
          · refine sf_mif (fun h => ?_) (fun h => ?_) h
            · exact h
            · refine sf_mif (fun h => ?_) (fun h => ?_) h
              · intro y18 hy18
                have h := h y18 hy18
                exact hP _ _ _ _ _ _ _ h
              · intro y17 hy17
                have h := h y17 hy17
                exact hP _ _ _ _ _ _ _ h
theorem ru_R_X4_sideOfEnd_1 {r : Int32} {τ σ : sf_St} {u0 u1 u2 u3 u4 : Int32} (h : tr_R_X4_sideOfEnd_1 (fun t σ u0 u1 u2 u3 u4 => Rn_R_X4_sideOfEnd t σ u0 u1 u2 u3 u4 r τ) r τ σ u0 u1 u2 u3 u4) : Rn_R_X4_sideOfEnd 1 σ u0 u1 u2 u3 u4 r τ := fun Pr hP => hP 1 σ u0 u1 u2 u3 u4 (mo_R_X4_sideOfEnd_1 (fun _ _ _ _ _ _ _ h => h Pr hP) h)
set_option maxHeartbeats 4000000 in
set_option maxRecDepth 100000 in
theorem c_X4_sideOfEnd {l : Launch} {D : va_G} {q : Nat → Nat} {dA : Nat → ClassId} {tv ta tb : Nat} (hq : sf_inj q KX) {σ τ : sf_St} {u0 u1 u2 : Int32} {r : Int32} (h : R_X4_sideOfEnd σ u0 u1 u2 r τ) : sf_Mi l yX4_sideOfEnd wsX4_sideOfEnd ({ frames := 2, cells := 0, slots := 0, locals := 43 }) D vwCl q dA KX (sf_EX q tv ta tb) [.ref (q 1), .int u0, .int u1, .int u2] σ r τ := by
  refine sf_meti (cc := cX4_sideOfEnd) (maxL := 7) (ret := (some .int)) (own := RX4) (by decide +kernel) rfl rfl hq sf_EXk (Nat.le_of_ble_eq_true rfl) ?_
  intro p e s m args below meth c X
  have hT := X.2.2.2.1.2.1
  refine sf_loc (lv' := [(0, .ref (q 1)), (1, .int u0), (2, .int u1), (3, .int u2)]) [0, 1, 2, 3] rfl ?_
  refine h (fun t σ u0 u1 u2 u3 u4 => match t with
    | 0 => sf_G p l e (headSpec wsX4_sideOfEnd ({ frames := 2, cells := 0, slots := 0, locals := 43 })).room s m args below meth c (sf_Qi D vwCl q dA KX (sf_EX q tv ta tb) below args s r τ) 7 D vwCl q dA KX σ 0 [(0, .ref (q 1)), (1, .int u0), (2, .int u1), (3, .int u2)] []
    | 1 => sf_G p l e (headSpec wsX4_sideOfEnd ({ frames := 2, cells := 0, slots := 0, locals := 43 })).room s m args below meth c (sf_Qi D vwCl q dA KX (sf_EX q tv ta tb) below args s r τ) 7 D vwCl q dA KX σ 6 [(0, .ref (q 1)), (1, .int u0), (2, .int u1), (3, .int u2), (4, .int u3), (5, .int u4)] []
    | _ => True) ?_
  intro t σ u0 u1 u2 u3 u4 h
  match t, h with
  | 0, h =>
      replace h := fe_R_X4_sideOfEnd_0 h
      unfold tr_R_X4_sideOfEnd_0 at h
      show sf_G p l e (headSpec wsX4_sideOfEnd ({ frames := 2, cells := 0, slots := 0, locals := 43 })).room s m args below meth c (sf_Qi D vwCl q dA KX (sf_EX q tv ta tb) below args s r τ) 7 D vwCl q dA KX σ 0 [(0, .ref (q 1)), (1, .int u0), (2, .int u1), (3, .int u2)] []
      refine sf_iconst (v := 0) X dX4_sideOfEnd_0 sf_ic_0 rfl ?_
      refine sf_istore (i := 4) (lv' := [(4, .int (0 : Int32)), (0, .ref (q 1)), (1, .int u0), (2, .int u1), (3, .int u2)]) X dX4_sideOfEnd_1 (by decide) rfl rfl ?_
      refine sf_iconst (v := 0) X dX4_sideOfEnd_3 sf_ic_0 rfl ?_
      refine sf_istore (i := 5) (lv' := [(5, .int (0 : Int32)), (4, .int (0 : Int32)), (0, .ref (q 1)), (1, .int u0), (2, .int u1), (3, .int u2)]) X dX4_sideOfEnd_4 (by decide) rfl rfl ?_
      refine sf_loc (lv' := [(0, .ref (q 1)), (1, .int u0), (2, .int u1), (3, .int u2), (4, .int (0 : Int32)), (5, .int (0 : Int32))]) [2, 3, 4, 5, 1, 0] rfl ?_
      exact h
  | 1, h =>
      replace h := fe_R_X4_sideOfEnd_1 h
      unfold tr_R_X4_sideOfEnd_1 at h
      show sf_G p l e (headSpec wsX4_sideOfEnd ({ frames := 2, cells := 0, slots := 0, locals := 43 })).room s m args below meth c (sf_Qi D vwCl q dA KX (sf_EX q tv ta tb) below args s r τ) 7 D vwCl q dA KX σ 6 [(0, .ref (q 1)), (1, .int u0), (2, .int u1), (3, .int u2), (4, .int u3), (5, .int u4)] []
      refine sf_iload (i := 5) (j := 5) X dX4_sideOfEnd_6 rfl rfl ?_
      refine sf_aload_n (i := 0) (j := 0) X dX4_sideOfEnd_8 rfl rfl rfl ?_
      refine sf_getI (C := RX0) (T := TX0) (N := 10) (ci := 0) (j := 3) X (fun w h => sf_memc (inX0 w h)) rfl rfl (by decide) (X.1.2.2.2.2 _ (sf_memc tw_82)) (fun _ h9 => h9) rfl dX4_sideOfEnd_9 rfl ?_
      refine sf_icmp_ge (tgt := 81) X dX4_sideOfEnd_12 rfl rfl (fun c1 => ?_) (fun c1 => ?_)
      · have h := sf_ift c1 h
        refine sf_iload (i := 4) (j := 4) X dX4_sideOfEnd_81 rfl rfl ?_
        exact sf_reti X h dX4_sideOfEnd_83
      · have h := sf_iff c1 h
        refine sf_iload (i := 5) (j := 5) X dX4_sideOfEnd_15 rfl rfl ?_
        refine sf_iload_n (i := 1) (j := 1) X dX4_sideOfEnd_17 rfl rfl rfl ?_
        refine sf_icmp_eq (tgt := 75) X dX4_sideOfEnd_18 rfl rfl (fun c2 => ?_) (fun c2 => ?_)
        · have h := sf_ift c2 h
          refine sf_iinc (i := 5) (j := 5) (d := 1) (lv' := fun y3 => [(5, .int y3), (0, .ref (q 1)), (1, .int u0), (2, .int u1), (3, .int u2), (4, .int u3)]) X dX4_sideOfEnd_75 rfl sf_ic_1 (by decide) (fun _ => rfl) rfl (fun y3 hy3 => ?_)
          have h := h y3 hy3
          refine sf_goto (tgt := 6) X dX4_sideOfEnd_78 rfl ?_
          refine sf_loc (lv' := [(0, .ref (q 1)), (1, .int u0), (2, .int u1), (3, .int u2), (4, .int u3), (5, .int y3)]) [1, 2, 3, 4, 5, 0] rfl ?_
          exact h
        · have h := sf_iff c2 h
          refine sf_iload (i := 5) (j := 5) X dX4_sideOfEnd_21 rfl rfl ?_
          refine sf_iload_n (i := 2) (j := 2) X dX4_sideOfEnd_23 rfl rfl rfl ?_
          refine sf_icmp_eq (tgt := 75) X dX4_sideOfEnd_24 rfl rfl (fun c4 => ?_) (fun c4 => ?_)
          · have h := sf_ift c4 h
            refine sf_iinc (i := 5) (j := 5) (d := 1) (lv' := fun y5 => [(5, .int y5), (0, .ref (q 1)), (1, .int u0), (2, .int u1), (3, .int u2), (4, .int u3)]) X dX4_sideOfEnd_75 rfl sf_ic_1 (by decide) (fun _ => rfl) rfl (fun y5 hy5 => ?_)
            have h := h y5 hy5
            refine sf_goto (tgt := 6) X dX4_sideOfEnd_78 rfl ?_
            refine sf_loc (lv' := [(0, .ref (q 1)), (1, .int u0), (2, .int u1), (3, .int u2), (4, .int u3), (5, .int y5)]) [1, 2, 3, 4, 5, 0] rfl ?_
            exact h
          · have h := sf_iff c4 h
            refine sf_aload_n (i := 0) (j := 0) X dX4_sideOfEnd_27 rfl rfl rfl ?_
            refine sf_iload_n (i := 3) (j := 3) X dX4_sideOfEnd_28 rfl rfl rfl ?_
            refine sf_iload (i := 5) (j := 5) X dX4_sideOfEnd_29 rfl rfl ?_
            obtain ⟨r8, τ7, hR6, h⟩ := h
            refine sf_callVi (As := [.int u2, .int u4]) (rest := []) (cv := (RX0, TX0, 10)) X rfl rfl (c_X0_areBonded hq hR6) (cwV 2 X.1.2.2.2.2 (sf_gV tw_358 tw_283 tw_284 tw_42 tw_285) rfl rfl rfl ⟨rfl, hd_X0_areBonded⟩ ⟨Nat.le_of_ble_eq_true rfl, Nat.le_of_ble_eq_true rfl⟩) rfl rfl (Nat.le_of_ble_eq_true rfl) dX4_sideOfEnd_31 rfl ?_
            refine sf_if_eq (tgt := 75) X dX4_sideOfEnd_34 rfl rfl (fun c9 => ?_) (fun c9 => ?_)
            · have h := sf_ift c9 h
              refine sf_iinc (i := 5) (j := 5) (d := 1) (lv' := fun y10 => [(5, .int y10), (0, .ref (q 1)), (1, .int u0), (2, .int u1), (3, .int u2), (4, .int u3)]) X dX4_sideOfEnd_75 rfl sf_ic_1 (by decide) (fun _ => rfl) rfl (fun y10 hy10 => ?_)
              have h := h y10 hy10
              refine sf_goto (tgt := 6) X dX4_sideOfEnd_78 rfl ?_
              refine sf_loc (lv' := [(0, .ref (q 1)), (1, .int u0), (2, .int u1), (3, .int u2), (4, .int u3), (5, .int y10)]) [1, 2, 3, 4, 5, 0] rfl ?_
              exact h
            · have h := sf_iff c9 h
              refine sf_aload_n (i := 0) (j := 0) X dX4_sideOfEnd_37 rfl rfl rfl ?_
              refine sf_iload_n (i := 1) (j := 1) X dX4_sideOfEnd_38 rfl rfl rfl ?_
              refine sf_iload_n (i := 2) (j := 2) X dX4_sideOfEnd_39 rfl rfl rfl ?_
              refine sf_iload (i := 5) (j := 5) X dX4_sideOfEnd_40 rfl rfl ?_
              obtain ⟨r13, τ12, hR11, h⟩ := h
              refine sf_callVi (As := [.int u0, .int u1, .int u4]) (rest := []) (cv := (RX0, TX0, 10)) X rfl rfl (c_X0_side hq hR11) (cwV 3 X.1.2.2.2.2 (sf_gV tw_401 tw_402 tw_403 tw_42 tw_404) rfl rfl rfl ⟨rfl, hd_X0_side⟩ ⟨Nat.le_of_ble_eq_true rfl, Nat.le_of_ble_eq_true rfl⟩) rfl rfl (Nat.le_of_ble_eq_true rfl) dX4_sideOfEnd_42 rfl ?_
              refine sf_istore (i := 6) (lv' := [(6, .int r13), (0, .ref (q 1)), (1, .int u0), (2, .int u1), (3, .int u2), (4, .int u3), (5, .int u4)]) X dX4_sideOfEnd_45 (by decide) rfl rfl ?_
              refine sf_iload (i := 6) (j := 0) X dX4_sideOfEnd_47 rfl rfl ?_
              refine sf_if_eq (tgt := 59) X dX4_sideOfEnd_49 rfl rfl (fun c14 => ?_) (fun c14 => ?_)
              · have h := sf_ift c14 h
                refine sf_iconst (v := 0) X dX4_sideOfEnd_59 sf_ic_0 rfl ?_
                exact sf_reti X h dX4_sideOfEnd_60
              · have h := sf_iff c14 h
                refine sf_iload (i := 6) (j := 0) X dX4_sideOfEnd_52 rfl rfl ?_
                refine sf_iload (i := 4) (j := 5) X dX4_sideOfEnd_54 rfl rfl ?_
                refine sf_icmp_ne (tgt := 61) X dX4_sideOfEnd_56 rfl rfl (fun c15 => ?_) (fun c15 => ?_)
                · have h := sf_iff c15 h
                  refine sf_iload (i := 4) (j := 5) X dX4_sideOfEnd_61 rfl rfl ?_
                  refine sf_if_ne (tgt := 71) X dX4_sideOfEnd_63 rfl rfl (fun c16 => ?_) (fun c16 => ?_)
                  · have h := sf_iff c16 h
                    refine sf_iload (i := 4) (j := 5) X dX4_sideOfEnd_71 rfl rfl ?_
                    refine sf_istore (i := 4) (lv' := [(4, .int u3), (6, .int r13), (0, .ref (q 1)), (1, .int u0), (2, .int u1), (3, .int u2), (5, .int u4)]) X dX4_sideOfEnd_73 (by decide) rfl rfl ?_
                    refine sf_iinc (i := 5) (j := 6) (d := 1) (lv' := fun y17 => [(5, .int y17), (4, .int u3), (6, .int r13), (0, .ref (q 1)), (1, .int u0), (2, .int u1), (3, .int u2)]) X dX4_sideOfEnd_75 rfl sf_ic_1 (by decide) (fun _ => rfl) rfl (fun y17 hy17 => ?_)
                    have h := h y17 hy17
                    refine sf_goto (tgt := 6) X dX4_sideOfEnd_78 rfl ?_
                    refine sf_loc (lv' := [(0, .ref (q 1)), (1, .int u0), (2, .int u1), (3, .int u2), (4, .int u3), (5, .int y17)]) [3, 4, 5, 6, 1, 0] rfl ?_
                    exact h
                  · have h := sf_ift c16 h
                    refine sf_iload (i := 6) (j := 0) X dX4_sideOfEnd_66 rfl rfl ?_
                    refine sf_goto (tgt := 73) X dX4_sideOfEnd_68 rfl ?_
                    refine sf_istore (i := 4) (lv' := [(4, .int r13), (6, .int r13), (0, .ref (q 1)), (1, .int u0), (2, .int u1), (3, .int u2), (5, .int u4)]) X dX4_sideOfEnd_73 (by decide) rfl rfl ?_
                    refine sf_iinc (i := 5) (j := 6) (d := 1) (lv' := fun y18 => [(5, .int y18), (4, .int r13), (6, .int r13), (0, .ref (q 1)), (1, .int u0), (2, .int u1), (3, .int u2)]) X dX4_sideOfEnd_75 rfl sf_ic_1 (by decide) (fun _ => rfl) rfl (fun y18 hy18 => ?_)
                    have h := h y18 hy18
                    refine sf_goto (tgt := 6) X dX4_sideOfEnd_78 rfl ?_
                    refine sf_loc (lv' := [(0, .ref (q 1)), (1, .int u0), (2, .int u1), (3, .int u2), (4, .int r13), (5, .int y18)]) [3, 4, 5, 6, 1, 0] rfl ?_
                    exact h
                · have h := sf_ift c15 h
                  refine sf_iconst (v := 0) X dX4_sideOfEnd_59 sf_ic_0 rfl ?_
                  exact sf_reti X h dX4_sideOfEnd_60
  | (_ + 2), _ => exact trivial
