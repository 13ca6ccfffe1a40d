def tr_R_X7_leastSenses_0 (Pr : Nat → sf_St → Int32 → Int32 → Int32 → Prop) (r : Int32) (τ : sf_St) (σ : sf_St) (u0 u1 u2 : Int32) : Prop :=
  ∃ τ2 : sf_St, R_X7_search σ τ2 ∧ (if (τ2 0 13) = (0 : Int32) then (Pr 1 τ2 u0 (0 : Int32) (0 : Int32)) else (Pr 1 τ2 u0 (100000 : Int32) (0 : Int32)))
def tr_R_X7_leastSenses_1 (Pr : Nat → sf_St → Int32 → Int32 → Int32 → Prop) (r : Int32) (τ : sf_St) (σ : sf_St) (u0 u1 u2 : Int32) : Prop :=
  if (σ 0 13) ≤ u2 then (r = u1 ∧ τ = σ) else (vp_in u2 5040 ∧ (∃ τ7 : sf_St, R_X7_unpack σ (σ 11 (sf_ix u2)) τ7 ∧ (∃ (r10 : Int32) (τ9 : sf_St), R_X7_sensesNow τ7 u0 r10 τ9 ∧ (if u1 ≤ r10 then (∀ y12 : Int32, y12 = u2 + (1 : Int32) → (Pr 1 τ9 u0 u1 y12)) else (∀ y13 : Int32, y13 = u2 + (1 : Int32) → (Pr 1 τ9 u0 r10 y13))))))
def fn_R_X7_leastSenses (Pr : Nat → sf_St → Int32 → Int32 → Int32 → Prop) (r : Int32) (τ : sf_St) (t : Nat) (σ : sf_St) (u0 u1 u2 : Int32) : Prop := match t with
  | 0 => tr_R_X7_leastSenses_0 Pr r τ σ u0 u1 u2
  | 1 => tr_R_X7_leastSenses_1 Pr r τ σ u0 u1 u2
  | _ => False
def Rn_R_X7_leastSenses (t : Nat) (σ : sf_St) (u0 u1 u2 : Int32) (r : Int32) (τ : sf_St) : Prop := ∀ Pr : Nat → sf_St → Int32 → Int32 → Int32 → Prop, (∀ (t : Nat) (σ : sf_St) (u0 u1 u2 : Int32), fn_R_X7_leastSenses Pr r τ t σ u0 u1 u2 → Pr t σ u0 u1 u2) → Pr t σ u0 u1 u2
def R_X7_leastSenses (σ : sf_St) (u0 : Int32) (r : Int32) (τ : sf_St) : Prop := Rn_R_X7_leastSenses 0 σ u0 0 0 r τ
theorem fe_R_X7_leastSenses_0 {Pr : Nat → sf_St → Int32 → Int32 → Int32 → Prop} {r : Int32} {τ σ : sf_St} {u0 u1 u2 : Int32} (h : fn_R_X7_leastSenses Pr r τ 0 σ u0 u1 u2) : tr_R_X7_leastSenses_0 Pr r τ σ u0 u1 u2 := h
theorem mo_R_X7_leastSenses_0 {Pr Pr' : Nat → sf_St → Int32 → Int32 → Int32 → Prop} {r : Int32} {τ σ : sf_St} {u0 u1 u2 : Int32} (hP : ∀ (t : Nat) (σ : sf_St) (u0 u1 u2 : Int32), Pr t σ u0 u1 u2 → Pr' t σ u0 u1 u2) (h : tr_R_X7_leastSenses_0 Pr r τ σ u0 u1 u2) : tr_R_X7_leastSenses_0 Pr' r τ σ u0 u1 u2 := by
  unfold tr_R_X7_leastSenses_0 at h ⊢
  refine Exists.imp (fun _ h => And.imp id (fun h => ?_) h) h
  refine sf_mif (fun h => ?_) (fun h => ?_) h
  · exact hP _ _ _ _ _ h
  · exact hP _ _ _ _ _ h
theorem ru_R_X7_leastSenses_0 {r : Int32} {τ σ : sf_St} {u0 u1 u2 : Int32} (h : tr_R_X7_leastSenses_0 (fun t σ u0 u1 u2 => Rn_R_X7_leastSenses t σ u0 u1 u2 r τ) r τ σ u0 u1 u2) : Rn_R_X7_leastSenses 0 σ u0 u1 u2 r τ := fun Pr hP => hP 0 σ u0 u1 u2 (mo_R_X7_leastSenses_0 (fun _ _ _ _ _ h => h Pr hP) h)
theorem fe_R_X7_leastSenses_1 {Pr : Nat → sf_St → Int32 → Int32 → Int32 → Prop} {r : Int32} {τ σ : sf_St} {u0 u1 u2 : Int32} (h : fn_R_X7_leastSenses Pr r τ 1 σ u0 u1 u2) : tr_R_X7_leastSenses_1 Pr r τ σ u0 u1 u2 := h
theorem mo_R_X7_leastSenses_1 {Pr Pr' : Nat → sf_St → Int32 → Int32 → Int32 → Prop} {r : Int32} {τ σ : sf_St} {u0 u1 u2 : Int32} (hP : ∀ (t : Nat) (σ : sf_St) (u0 u1 u2 : Int32), Pr t σ u0 u1 u2 → Pr' t σ u0 u1 u2) (h : tr_R_X7_leastSenses_1 Pr r τ σ u0 u1 u2) : tr_R_X7_leastSenses_1 Pr' r τ σ u0 u1 u2 := by
  unfold tr_R_X7_leastSenses_1 at h ⊢
  refine sf_mif (fun h => ?_) (fun h => ?_) h
  · exact h
  · refine And.imp id (fun h => ?_) h
    refine Exists.imp (fun _ h => And.imp id (fun h => ?_) h) h
    refine Exists.imp (fun _ h => Exists.imp (fun _ h => And.imp id (fun h => ?_) h) h) h
    refine sf_mif (fun h => ?_) (fun h => ?_) h
    · intro y12 hy12
      have h := h y12 hy12
      exact hP _ _ _ _ _ h
    · intro y13 hy13
      have h := h y13 hy13
      exact hP _ _ _ _ _ h
theorem ru_R_X7_leastSenses_1 {r : Int32} {τ σ : sf_St} {u0 u1 u2 : Int32} (h : tr_R_X7_leastSenses_1 (fun t σ u0 u1 u2 => Rn_R_X7_leastSenses t σ u0 u1 u2 r τ) r τ σ u0 u1 u2) : Rn_R_X7_leastSenses 1 σ u0 u1 u2 r τ := fun Pr hP => hP 1 σ u0 u1 u2 (mo_R_X7_leastSenses_1 (fun _ _ _ _ _ h => h Pr hP) h)
set_option maxHeartbeats 4000000 in
set_option maxRecDepth 100000 in
theorem c_X7_leastSenses {l : Launch} {D : va_G} {q : Nat → Nat} {dA : Nat → ClassId}  (hq : sf_inj q KM) {σ τ : sf_St} {u0 : Int32} {r : Int32} (h : R_X7_leastSenses σ u0 r τ) : sf_Mi l yX7_leastSenses wsX7_leastSenses ({ frames := 5, cells := 0, slots := 0, locals := 123 }) D vwCl q dA KM sf_EM [.ref (q 0), .int u0] σ r τ := by
  refine sf_meti (cc := cX7_leastSenses) (maxL := 5) (ret := (some .int)) (own := RX7) (by decide +kernel) rfl rfl hq sf_EMk (Nat.le_of_ble_eq_true rfl) ?_
  intro p e s m args below meth c X
  refine sf_loc (lv' := [(0, .ref (q 0)), (1, .int u0)]) [0, 1] rfl ?_
  refine h (fun t σ u0 u1 u2 => match t with
    | 0 => sf_G p l e (headSpec wsX7_leastSenses ({ frames := 5, cells := 0, slots := 0, locals := 123 })).room s m args below meth c (sf_Qi D vwCl q dA KM sf_EM below args s r τ) 5 D vwCl q dA KM σ 0 [(0, .ref (q 0)), (1, .int u0)] []
    | 1 => sf_G p l e (headSpec wsX7_leastSenses ({ frames := 5, cells := 0, slots := 0, locals := 123 })).room s m args below meth c (sf_Qi D vwCl q dA KM sf_EM below args s r τ) 5 D vwCl q dA KM σ 20 [(0, .ref (q 0)), (1, .int u0), (2, .int u1), (3, .int u2)] []
    | _ => True) ?_
  intro t σ u0 u1 u2 h
  match t, h with
  | 0, h =>
      replace h := fe_R_X7_leastSenses_0 h
      unfold tr_R_X7_leastSenses_0 at h
      show sf_G p l e (headSpec wsX7_leastSenses ({ frames := 5, cells := 0, slots := 0, locals := 123 })).room s m args below meth c (sf_Qi D vwCl q dA KM sf_EM below args s r τ) 5 D vwCl q dA KM σ 0 [(0, .ref (q 0)), (1, .int u0)] []
      refine sf_aload_n (i := 0) (j := 0) X dX7_leastSenses_0 rfl rfl rfl ?_
      obtain ⟨τ2, hR1, h⟩ := h
      refine sf_callVv (As := []) (rest := []) (cv := (RX7, TX7, 23)) X rfl rfl (c_X7_search hq hR1) (cwV 0 X.1.2.2.2.2 (sf_gV tw_806 tw_808 tw_29 tw_48 tw_809) rfl rfl rfl ⟨rfl, hd_X7_search⟩ ⟨Nat.le_of_ble_eq_true rfl, Nat.le_of_ble_eq_true rfl⟩) rfl rfl (Nat.le_of_ble_eq_true rfl) dX7_leastSenses_1 rfl ?_
      refine sf_aload_n (i := 0) (j := 0) X dX7_leastSenses_4 rfl rfl rfl ?_
      refine sf_getI (C := RX7) (T := TX7) (N := 23) (ci := 7) (j := 13) X (fun w h => sf_memc (inX7 w h)) rfl rfl (by decide) (X.1.2.2.2.2 _ (sf_memc tw_644)) (fun _ h9 => h9) rfl dX7_leastSenses_5 rfl ?_
      refine sf_if_ne (tgt := 15) X dX7_leastSenses_8 rfl rfl (fun c3 => ?_) (fun c3 => ?_)
      · have h := sf_iff c3 h
        refine sf_ldc (v := 100000) X (X.1.2.2.2.2 _ (sf_memc tw_835)) dX7_leastSenses_15 rfl ?_
        refine sf_istore_n (i := 2) (lv' := [(2, .int (100000 : Int32)), (0, .ref (q 0)), (1, .int u0)]) X dX7_leastSenses_17 rfl (by decide) rfl rfl ?_
        refine sf_iconst (v := 0) X dX7_leastSenses_18 sf_ic_0 rfl ?_
        refine sf_istore_n (i := 3) (lv' := [(3, .int (0 : Int32)), (2, .int (100000 : Int32)), (0, .ref (q 0)), (1, .int u0)]) X dX7_leastSenses_19 rfl (by decide) rfl rfl ?_
        refine sf_loc (lv' := [(0, .ref (q 0)), (1, .int u0), (2, .int (100000 : Int32)), (3, .int (0 : Int32))]) [2, 3, 1, 0] rfl ?_
        exact h
      · have h := sf_ift c3 h
        refine sf_iconst (v := 0) X dX7_leastSenses_11 sf_ic_0 rfl ?_
        refine sf_goto (tgt := 17) X dX7_leastSenses_12 rfl ?_
        refine sf_istore_n (i := 2) (lv' := [(2, .int (0 : Int32)), (0, .ref (q 0)), (1, .int u0)]) X dX7_leastSenses_17 rfl (by decide) rfl rfl ?_
        refine sf_iconst (v := 0) X dX7_leastSenses_18 sf_ic_0 rfl ?_
        refine sf_istore_n (i := 3) (lv' := [(3, .int (0 : Int32)), (2, .int (0 : Int32)), (0, .ref (q 0)), (1, .int u0)]) X dX7_leastSenses_19 rfl (by decide) rfl rfl ?_
        refine sf_loc (lv' := [(0, .ref (q 0)), (1, .int u0), (2, .int (0 : Int32)), (3, .int (0 : Int32))]) [2, 3, 1, 0] rfl ?_
        exact h
  | 1, h =>
      replace h := fe_R_X7_leastSenses_1 h
      unfold tr_R_X7_leastSenses_1 at h
      show sf_G p l e (headSpec wsX7_leastSenses ({ frames := 5, cells := 0, slots := 0, locals := 123 })).room s m args below meth c (sf_Qi D vwCl q dA KM sf_EM below args s r τ) 5 D vwCl q dA KM σ 20 [(0, .ref (q 0)), (1, .int u0), (2, .int u1), (3, .int u2)] []
      refine sf_iload_n (i := 3) (j := 3) X dX7_leastSenses_20 rfl rfl rfl ?_
      refine sf_aload_n (i := 0) (j := 0) X dX7_leastSenses_21 rfl rfl rfl ?_
      refine sf_getI (C := RX7) (T := TX7) (N := 23) (ci := 7) (j := 13) X (fun w h => sf_memc (inX7 w h)) rfl rfl (by decide) (X.1.2.2.2.2 _ (sf_memc tw_644)) (fun _ h9 => h9) rfl dX7_leastSenses_22 rfl ?_
      refine sf_icmp_ge (tgt := 64) X dX7_leastSenses_25 rfl rfl (fun c4 => ?_) (fun c4 => ?_)
      · have h := sf_ift c4 h
        refine sf_iload_n (i := 2) (j := 2) X dX7_leastSenses_64 rfl rfl rfl ?_
        exact sf_reti X h dX7_leastSenses_65
      · have h := sf_iff c4 h
        refine sf_aload_n (i := 0) (j := 0) X dX7_leastSenses_28 rfl rfl rfl ?_
        refine sf_aload_n (i := 0) (j := 0) X dX7_leastSenses_29 rfl rfl rfl ?_
        refine sf_getR (C := RX7) (T := TX7) (N := 23) (ci := 7) (j := 14) (k' := 11) X (fun w h => sf_memc (inX7 w h)) rfl rfl (by decide) (X.1.2.2.2.2 _ (sf_memc tw_645)) (fun _ h9 => h9) rfl dX7_leastSenses_30 rfl ?_
        refine sf_iload_n (i := 3) (j := 3) X dX7_leastSenses_33 rfl rfl rfl ?_
        obtain ⟨b5, h⟩ := h
        refine sf_iald X rfl b5 dX7_leastSenses_34 rfl ?_
        obtain ⟨τ7, hR6, h⟩ := h
        refine sf_callVv (As := [.int (σ 11 (sf_ix u2))]) (rest := []) (cv := (RX7, TX7, 23)) X rfl rfl (c_X7_unpack hq hR6) (cwV 1 X.1.2.2.2.2 (sf_gV tw_836 tw_838 tw_35 tw_48 tw_839) rfl rfl rfl ⟨rfl, hd_X7_unpack⟩ ⟨Nat.le_of_ble_eq_true rfl, Nat.le_of_ble_eq_true rfl⟩) rfl rfl (Nat.le_of_ble_eq_true rfl) dX7_leastSenses_35 rfl ?_
        refine sf_aload_n (i := 0) (j := 0) X dX7_leastSenses_38 rfl rfl rfl ?_
        refine sf_iload_n (i := 1) (j := 1) X dX7_leastSenses_39 rfl rfl rfl ?_
        obtain ⟨r10, τ9, hR8, h⟩ := h
        refine sf_callVi (As := [.int u0]) (rest := []) (cv := (RX7, TX7, 23)) X rfl rfl (c_X7_sensesNow hq hR8) (cwV 1 X.1.2.2.2.2 (sf_gV tw_840 tw_842 tw_36 tw_48 tw_843) rfl rfl rfl ⟨rfl, hd_X7_sensesNow⟩ ⟨Nat.le_of_ble_eq_true rfl, Nat.le_of_ble_eq_true rfl⟩) rfl rfl (Nat.le_of_ble_eq_true rfl) dX7_leastSenses_40 rfl ?_
        refine sf_istore (i := 4) (lv' := [(4, .int r10), (0, .ref (q 0)), (1, .int u0), (2, .int u1), (3, .int u2)]) X dX7_leastSenses_43 (by decide) rfl rfl ?_
        refine sf_iload (i := 4) (j := 0) X dX7_leastSenses_45 rfl rfl ?_
        refine sf_iload_n (i := 2) (j := 3) X dX7_leastSenses_47 rfl rfl rfl ?_
        refine sf_icmp_ge (tgt := 56) X dX7_leastSenses_48 rfl rfl (fun c11 => ?_) (fun c11 => ?_)
        · have h := sf_ift c11 h
          refine sf_iload_n (i := 2) (j := 3) X dX7_leastSenses_56 rfl rfl rfl ?_
          refine sf_istore_n (i := 2) (lv' := [(2, .int u1), (4, .int r10), (0, .ref (q 0)), (1, .int u0), (3, .int u2)]) X dX7_leastSenses_57 rfl (by decide) rfl rfl ?_
          refine sf_iinc (i := 3) (j := 4) (d := 1) (lv' := fun y12 => [(3, .int y12), (2, .int u1), (4, .int r10), (0, .ref (q 0)), (1, .int u0)]) X dX7_leastSenses_58 rfl sf_ic_1 (by decide) (fun _ => rfl) rfl (fun y12 hy12 => ?_)
          have h := h y12 hy12
          refine sf_goto (tgt := 20) X dX7_leastSenses_61 rfl ?_
          refine sf_loc (lv' := [(0, .ref (q 0)), (1, .int u0), (2, .int u1), (3, .int y12)]) [3, 4, 1, 0] rfl ?_
          exact h
        · have h := sf_iff c11 h
          refine sf_iload (i := 4) (j := 0) X dX7_leastSenses_51 rfl rfl ?_
          refine sf_goto (tgt := 57) X dX7_leastSenses_53 rfl ?_
          refine sf_istore_n (i := 2) (lv' := [(2, .int r10), (4, .int r10), (0, .ref (q 0)), (1, .int u0), (3, .int u2)]) X dX7_leastSenses_57 rfl (by decide) rfl rfl ?_
          refine sf_iinc (i := 3) (j := 4) (d := 1) (lv' := fun y13 => [(3, .int y13), (2, .int r10), (4, .int r10), (0, .ref (q 0)), (1, .int u0)]) X dX7_leastSenses_58 rfl sf_ic_1 (by decide) (fun _ => rfl) rfl (fun y13 hy13 => ?_)
          have h := h y13 hy13
          refine sf_goto (tgt := 20) X dX7_leastSenses_61 rfl ?_
          refine sf_loc (lv' := [(0, .ref (q 0)), (1, .int u0), (2, .int r10), (3, .int y13)]) [3, 4, 1, 0] rfl ?_
          exact h
  | (_ + 2), _ => exact trivial
def R_X7_senses (σ : sf_St) (r : Int32) (τ : sf_St) : Prop :=
  ∃ (r3 : Int32) (τ2 : sf_St), R_X7_leastSenses σ (0 : Int32) r3 τ2 ∧ (r = r3 ∧ τ = τ2)
set_option maxHeartbeats 4000000 in
set_option maxRecDepth 100000 in
theorem c_X7_senses {l : Launch} {D : va_G} {q : Nat → Nat} {dA : Nat → ClassId}  (hq : sf_inj q KM) {σ τ : sf_St} {r : Int32} (h : R_X7_senses σ  r τ) : sf_Mi l yX7_senses wsX7_senses ({ frames := 6, cells := 0, slots := 0, locals := 147 }) D vwCl q dA KM sf_EM [.ref (q 0)] σ r τ := by
  refine sf_meti (cc := cX7_senses) (maxL := 1) (ret := (some .int)) (own := RX7) (by decide +kernel) rfl rfl hq sf_EMk (Nat.le_of_ble_eq_true rfl) ?_
  intro p e s m args below meth c X
  unfold R_X7_senses at h
  refine sf_loc (lv' := [(0, .ref (q 0))]) [0] rfl ?_
  refine sf_aload_n (i := 0) (j := 0) X dX7_senses_0 rfl rfl rfl ?_
  refine sf_iconst (v := 0) X dX7_senses_1 sf_ic_0 rfl ?_
  obtain ⟨r3, τ2, hR1, h⟩ := h
  refine sf_callVi (As := [.int (0 : Int32)]) (rest := []) (cv := (RX7, TX7, 23)) X rfl rfl (c_X7_leastSenses hq hR1) (cwV 1 X.1.2.2.2.2 (sf_gV tw_831 tw_833 tw_34 tw_48 tw_834) rfl rfl rfl ⟨rfl, hd_X7_leastSenses⟩ ⟨Nat.le_of_ble_eq_true rfl, Nat.le_of_ble_eq_true rfl⟩) rfl rfl (Nat.le_of_ble_eq_true rfl) dX7_senses_2 rfl ?_
  exact sf_reti X h dX7_senses_5
def R_X7_chiral (σ : sf_St) (r : Int32) (τ : sf_St) : Prop :=
  ∃ (r3 : Int32) (τ2 : sf_St), R_X7_leastSenses σ (0 : Int32) r3 τ2 ∧ (∃ (r6 : Int32) (τ5 : sf_St), R_X7_leastSenses τ2 (127 : Int32) r6 τ5 ∧ (if r3 = r6 then (r = (0 : Int32) ∧ τ = τ5) else (r = (1 : Int32) ∧ τ = τ5)))
set_option maxHeartbeats 4000000 in
set_option maxRecDepth 100000 in
theorem c_X7_chiral {l : Launch} {D : va_G} {q : Nat → Nat} {dA : Nat → ClassId}  (hq : sf_inj q KM) {σ τ : sf_St} {r : Int32} (h : R_X7_chiral σ  r τ) : sf_Mi l yX7_chiral wsX7_chiral ({ frames := 6, cells := 0, slots := 0, locals := 147 }) D vwCl q dA KM sf_EM [.ref (q 0)] σ r τ := by
  refine sf_meti (cc := cX7_chiral) (maxL := 1) (ret := (some .boolean)) (own := RX7) (by decide +kernel) rfl rfl hq sf_EMk (Nat.le_of_ble_eq_true rfl) ?_
  intro p e s m args below meth c X
  unfold R_X7_chiral at h
  refine sf_loc (lv' := [(0, .ref (q 0))]) [0] rfl ?_
  refine sf_aload_n (i := 0) (j := 0) X dX7_chiral_0 rfl rfl rfl ?_
  refine sf_iconst (v := 0) X dX7_chiral_1 sf_ic_0 rfl ?_
  obtain ⟨r3, τ2, hR1, h⟩ := h
  refine sf_callVi (As := [.int (0 : Int32)]) (rest := []) (cv := (RX7, TX7, 23)) X rfl rfl (c_X7_leastSenses hq hR1) (cwV 1 X.1.2.2.2.2 (sf_gV tw_831 tw_833 tw_34 tw_48 tw_834) rfl rfl rfl ⟨rfl, hd_X7_leastSenses⟩ ⟨Nat.le_of_ble_eq_true rfl, Nat.le_of_ble_eq_true rfl⟩) rfl rfl (Nat.le_of_ble_eq_true rfl) dX7_chiral_2 rfl ?_
  refine sf_aload_n (i := 0) (j := 0) X dX7_chiral_5 rfl rfl rfl ?_
  refine sf_bipush (v := 127) X dX7_chiral_6 sf_bc_127 rfl ?_
  obtain ⟨r6, τ5, hR4, h⟩ := h
  refine sf_callVi (As := [.int (127 : Int32)]) (rest := [.int r3]) (cv := (RX7, TX7, 23)) X rfl rfl (c_X7_leastSenses hq hR4) (cwV 1 X.1.2.2.2.2 (sf_gV tw_831 tw_833 tw_34 tw_48 tw_834) rfl rfl rfl ⟨rfl, hd_X7_leastSenses⟩ ⟨Nat.le_of_ble_eq_true rfl, Nat.le_of_ble_eq_true rfl⟩) rfl rfl (Nat.le_of_ble_eq_true rfl) dX7_chiral_8 rfl ?_
  refine sf_icmp_eq (tgt := 18) X dX7_chiral_11 rfl rfl (fun c7 => ?_) (fun c7 => ?_)
  · have h := sf_ift c7 h
    refine sf_iconst (v := 0) X dX7_chiral_18 sf_ic_0 rfl ?_
    exact sf_retz X h rfl dX7_chiral_19
  · have h := sf_iff c7 h
    refine sf_iconst (v := 1) X dX7_chiral_14 sf_ic_1 rfl ?_
    refine sf_goto (tgt := 19) X dX7_chiral_15 rfl ?_
    exact sf_retz X h rfl dX7_chiral_19
def tr_R_X7_isomers_0 (Pr : Nat → sf_St → Int32 → Int32 → Int32 → Int32 → Int32 → Int32 → Int32 → Int32 → Prop) (r : Int32) (τ : sf_St) (σ : sf_St) (u0 u1 u2 u3 u4 u5 u6 u7 : Int32) : Prop :=
  ∃ τ2 : sf_St, R_X7_ownNumbers σ τ2 ∧ (Pr 1 τ2 (0 : Int32) (0 : Int32) (0 : Int32) 0 0 0 0 0)
def tr_R_X7_isomers_1 (Pr : Nat → sf_St → Int32 → Int32 → Int32 → Int32 → Int32 → Int32 → Int32 → Int32 → Prop) (r : Int32) (τ : sf_St) (σ : sf_St) (u0 u1 u2 u3 u4 u5 u6 u7 : Int32) : Prop :=
  if (σ 0 0) ≤ u2 then (Pr 2 σ u0 u1 (0 : Int32) 0 0 0 0 0) else (∃ (r6 : Int32) (τ5 : sf_St), R_X7_centreSense σ u2 r6 τ5 ∧ (if r6 = (0 : Int32) then (if (0 : Int32) = (0 : Int32) then (∀ y9 : Int32, y9 = (u0 + (0 : Int32)) → (if (0 : Int32) = (0 : Int32) then (∀ y11 : Int32, y11 = u2 + (1 : Int32) → (Pr 1 τ5 y9 u1 y11 0 0 0 0 0)) else (∀ y12 : Int32, y12 = (u1 ||| ((1 : Int32) <<< (u2 &&& 31))) → (∀ y13 : Int32, y13 = u2 + (1 : Int32) → (Pr 1 τ5 y9 y12 y13 0 0 0 0 0))))) else (∀ y14 : Int32, y14 = (u0 + (1 : Int32)) → (if (0 : Int32) = (0 : Int32) then (∀ y16 : Int32, y16 = u2 + (1 : Int32) → (Pr 1 τ5 y14 u1 y16 0 0 0 0 0)) else (∀ y17 : Int32, y17 = (u1 ||| ((1 : Int32) <<< (u2 &&& 31))) → (∀ y18 : Int32, y18 = u2 + (1 : Int32) → (Pr 1 τ5 y14 y17 y18 0 0 0 0 0)))))) else (if (1 : Int32) = (0 : Int32) then (∀ y20 : Int32, y20 = (u0 + (0 : Int32)) → (if (1 : Int32) = (0 : Int32) then (∀ y22 : Int32, y22 = u2 + (1 : Int32) → (Pr 1 τ5 y20 u1 y22 0 0 0 0 0)) else (∀ y23 : Int32, y23 = (u1 ||| ((1 : Int32) <<< (u2 &&& 31))) → (∀ y24 : Int32, y24 = u2 + (1 : Int32) → (Pr 1 τ5 y20 y23 y24 0 0 0 0 0))))) else (∀ y25 : Int32, y25 = (u0 + (1 : Int32)) → (if (1 : Int32) = (0 : Int32) then (∀ y27 : Int32, y27 = u2 + (1 : Int32) → (Pr 1 τ5 y25 u1 y27 0 0 0 0 0)) else (∀ y28 : Int32, y28 = (u1 ||| ((1 : Int32) <<< (u2 &&& 31))) → (∀ y29 : Int32, y29 = u2 + (1 : Int32) → (Pr 1 τ5 y25 y28 y29 0 0 0 0 0))))))))
def tr_R_X7_isomers_2 (Pr : Nat → sf_St → Int32 → Int32 → Int32 → Int32 → Int32 → Int32 → Int32 → Int32 → Prop) (r : Int32) (τ : sf_St) (σ : sf_St) (u0 u1 u2 u3 u4 u5 u6 u7 : Int32) : Prop :=
  if (σ 0 4) ≤ u2 then (if u0 ≤ (4 : Int32) then (Pr 3 σ u0 u1 (0 : Int32) u1 (1 : Int32) 0 0 0) else (r = (-1 : Int32) ∧ τ = σ)) else (∃ (r34 : Int32) (τ33 : sf_St), R_X7_hingeSense σ u2 r34 τ33 ∧ (if r34 = (0 : Int32) then (if (0 : Int32) = (0 : Int32) then (∀ y37 : Int32, y37 = (u0 + (0 : Int32)) → (if (0 : Int32) = (0 : Int32) then (∀ y39 : Int32, y39 = u2 + (1 : Int32) → (Pr 2 τ33 y37 u1 y39 0 0 0 0 0)) else (∀ y40 : Int32, y40 = (u1 ||| ((1 : Int32) <<< (((7 : Int32) + u2) &&& 31))) → (∀ y41 : Int32, y41 = u2 + (1 : Int32) → (Pr 2 τ33 y37 y40 y41 0 0 0 0 0))))) else (∀ y42 : Int32, y42 = (u0 + (1 : Int32)) → (if (0 : Int32) = (0 : Int32) then (∀ y44 : Int32, y44 = u2 + (1 : Int32) → (Pr 2 τ33 y42 u1 y44 0 0 0 0 0)) else (∀ y45 : Int32, y45 = (u1 ||| ((1 : Int32) <<< (((7 : Int32) + u2) &&& 31))) → (∀ y46 : Int32, y46 = u2 + (1 : Int32) → (Pr 2 τ33 y42 y45 y46 0 0 0 0 0)))))) else (if (1 : Int32) = (0 : Int32) then (∀ y48 : Int32, y48 = (u0 + (0 : Int32)) → (if (1 : Int32) = (0 : Int32) then (∀ y50 : Int32, y50 = u2 + (1 : Int32) → (Pr 2 τ33 y48 u1 y50 0 0 0 0 0)) else (∀ y51 : Int32, y51 = (u1 ||| ((1 : Int32) <<< (((7 : Int32) + u2) &&& 31))) → (∀ y52 : Int32, y52 = u2 + (1 : Int32) → (Pr 2 τ33 y48 y51 y52 0 0 0 0 0))))) else (∀ y53 : Int32, y53 = (u0 + (1 : Int32)) → (if (1 : Int32) = (0 : Int32) then (∀ y55 : Int32, y55 = u2 + (1 : Int32) → (Pr 2 τ33 y53 u1 y55 0 0 0 0 0)) else (∀ y56 : Int32, y56 = (u1 ||| ((1 : Int32) <<< (((7 : Int32) + u2) &&& 31))) → (∀ y57 : Int32, y57 = u2 + (1 : Int32) → (Pr 2 τ33 y53 y56 y57 0 0 0 0 0))))))))
def tr_R_X7_isomers_3 (Pr : Nat → sf_St → Int32 → Int32 → Int32 → Int32 → Int32 → Int32 → Int32 → Int32 → Prop) (r : Int32) (τ : sf_St) (σ : sf_St) (u0 u1 u2 u3 u4 u5 u6 u7 : Int32) : Prop :=
  if u4 = (0 : Int32) then (r = u2 ∧ τ = σ) else (∃ (r61 : Int32) (τ60 : sf_St), R_X7_leastSenses σ u3 r61 τ60 ∧ (Pr 4 τ60 u0 u1 u2 u3 u4 r61 (0 : Int32) (0 : Int32)))
def tr_R_X7_isomers_4 (Pr : Nat → sf_St → Int32 → Int32 → Int32 → Int32 → Int32 → Int32 → Int32 → Int32 → Prop) (r : Int32) (τ : sf_St) (σ : sf_St) (u0 u1 u2 u3 u4 u5 u6 u7 : Int32) : Prop :=
  if u2 ≤ u7 then (if u6 = (0 : Int32) then (vp_in u2 16 ∧ (∀ τ68 : sf_St, τ68 = sf_up σ 15 (sf_ix u2) u5 → (∀ y69 : Int32, y69 = u2 + (1 : Int32) → (if u3 = (0 : Int32) then (∀ y71 : Int32, y71 = ((u3 - (1 : Int32)) &&& u1) → (Pr 3 τ68 u0 u1 y69 y71 (0 : Int32) 0 0 0)) else (∀ y72 : Int32, y72 = ((u3 - (1 : Int32)) &&& u1) → (Pr 3 τ68 u0 u1 y69 y72 (1 : Int32) 0 0 0)))))) else (if u3 = (0 : Int32) then (∀ y65 : Int32, y65 = ((u3 - (1 : Int32)) &&& u1) → (Pr 3 σ u0 u1 u2 y65 (0 : Int32) 0 0 0)) else (∀ y66 : Int32, y66 = ((u3 - (1 : Int32)) &&& u1) → (Pr 3 σ u0 u1 u2 y66 (1 : Int32) 0 0 0)))) else (if u6 = (0 : Int32) then (vp_in u7 16 ∧ (if (σ 15 (sf_ix u7)) = u5 then (∀ y78 : Int32, y78 = u7 + (1 : Int32) → (Pr 4 σ u0 u1 u2 u3 u4 u5 (1 : Int32) y78)) else (∀ y77 : Int32, y77 = u7 + (1 : Int32) → (Pr 4 σ u0 u1 u2 u3 u4 u5 (0 : Int32) y77)))) else (∀ y74 : Int32, y74 = u7 + (1 : Int32) → (Pr 4 σ u0 u1 u2 u3 u4 u5 (1 : Int32) y74)))
def fn_R_X7_isomers (Pr : Nat → sf_St → Int32 → Int32 → Int32 → Int32 → Int32 → Int32 → Int32 → Int32 → Prop) (r : Int32) (τ : sf_St) (t : Nat) (σ : sf_St) (u0 u1 u2 u3 u4 u5 u6 u7 : Int32) : Prop := match t with
  | 0 => tr_R_X7_isomers_0 Pr r τ σ u0 u1 u2 u3 u4 u5 u6 u7
  | 1 => tr_R_X7_isomers_1 Pr r τ σ u0 u1 u2 u3 u4 u5 u6 u7
  | 2 => tr_R_X7_isomers_2 Pr r τ σ u0 u1 u2 u3 u4 u5 u6 u7
  | 3 => tr_R_X7_isomers_3 Pr r τ σ u0 u1 u2 u3 u4 u5 u6 u7
  | 4 => tr_R_X7_isomers_4 Pr r τ σ u0 u1 u2 u3 u4 u5 u6 u7
  | _ => False
def Rn_R_X7_isomers (t : Nat) (σ : sf_St) (u0 u1 u2 u3 u4 u5 u6 u7 : Int32) (r : Int32) (τ : sf_St) : Prop := ∀ Pr : Nat → sf_St → Int32 → Int32 → Int32 → Int32 → Int32 → Int32 → Int32 → Int32 → Prop, (∀ (t : Nat) (σ : sf_St) (u0 u1 u2 u3 u4 u5 u6 u7 : Int32), fn_R_X7_isomers Pr r τ t σ u0 u1 u2 u3 u4 u5 u6 u7 → Pr t σ u0 u1 u2 u3 u4 u5 u6 u7) → Pr t σ u0 u1 u2 u3 u4 u5 u6 u7
def R_X7_isomers (σ : sf_St) (r : Int32) (τ : sf_St) : Prop := Rn_R_X7_isomers 0 σ  0 0 0 0 0 0 0 0 r τ
theorem fe_R_X7_isomers_0 {Pr : Nat → sf_St → Int32 → Int32 → Int32 → Int32 → Int32 → Int32 → Int32 → Int32 → Prop} {r : Int32} {τ σ : sf_St} {u0 u1 u2 u3 u4 u5 u6 u7 : Int32} (h : fn_R_X7_isomers Pr r τ 0 σ u0 u1 u2 u3 u4 u5 u6 u7) : tr_R_X7_isomers_0 Pr r τ σ u0 u1 u2 u3 u4 u5 u6 u7 := h
theorem mo_R_X7_isomers_0 {Pr Pr' : Nat → sf_St → Int32 → Int32 → Int32 → Int32 → Int32 → Int32 → Int32 → Int32 → Prop} {r : Int32} {τ σ : sf_St} {u0 u1 u2 u3 u4 u5 u6 u7 : Int32} (hP : ∀ (t : Nat) (σ : sf_St) (u0 u1 u2 u3 u4 u5 u6 u7 : Int32), Pr t σ u0 u1 u2 u3 u4 u5 u6 u7 → Pr' t σ u0 u1 u2 u3 u4 u5 u6 u7) (h : tr_R_X7_isomers_0 Pr r τ σ u0 u1 u2 u3 u4 u5 u6 u7) : tr_R_X7_isomers_0 Pr' r τ σ u0 u1 u2 u3 u4 u5 u6 u7 := by
  unfold tr_R_X7_isomers_0 at h ⊢
  refine Exists.imp (fun _ h => And.imp id (fun h => ?_) h) h
  exact hP _ _ _ _ _ _ _ _ _ _ h
theorem ru_R_X7_isomers_0 {r : Int32} {τ σ : sf_St} {u0 u1 u2 u3 u4 u5 u6 u7 : Int32} (h : tr_R_X7_isomers_0 (fun t σ u0 u1 u2 u3 u4 u5 u6 u7 => Rn_R_X7_isomers t σ u0 u1 u2 u3 u4 u5 u6 u7 r τ) r τ σ u0 u1 u2 u3 u4 u5 u6 u7) : Rn_R_X7_isomers 0 σ u0 u1 u2 u3 u4 u5 u6 u7 r τ := fun Pr hP => hP 0 σ u0 u1 u2 u3 u4 u5 u6 u7 (mo_R_X7_isomers_0 (fun _ _ _ _ _ _ _ _ _ _ h => h Pr hP) h)
theorem fe_R_X7_isomers_1 {Pr : Nat → sf_St → Int32 → Int32 → Int32 → Int32 → Int32 → Int32 → Int32 → Int32 → Prop} {r : Int32} {τ σ : sf_St} {u0 u1 u2 u3 u4 u5 u6 u7 : Int32} (h : fn_R_X7_isomers Pr r τ 1 σ u0 u1 u2 u3 u4 u5 u6 u7) : tr_R_X7_isomers_1 Pr r τ σ u0 u1 u2 u3 u4 u5 u6 u7 := h
theorem mo_R_X7_isomers_1 {Pr Pr' : Nat → sf_St → Int32 → Int32 → Int32 → Int32 → Int32 → Int32 → Int32 → Int32 → Prop} {r : Int32} {τ σ : sf_St} {u0 u1 u2 u3 u4 u5 u6 u7 : Int32} (hP : ∀ (t : Nat) (σ : sf_St) (u0 u1 u2 u3 u4 u5 u6 u7 : Int32), Pr t σ u0 u1 u2 u3 u4 u5 u6 u7 → Pr' t σ u0 u1 u2 u3 u4 u5 u6 u7) (h : tr_R_X7_isomers_1 Pr r τ σ u0 u1 u2 u3 u4 u5 u6 u7) : tr_R_X7_isomers_1 Pr' r τ σ u0 u1 u2 u3 u4 u5 u6 u7 := by
  unfold tr_R_X7_isomers_1 at h ⊢
  refine sf_mif (fun h => ?_) (fun h => ?_) h
  · exact hP _ _ _ _ _ _ _ _ _ _ h
  · refine Exists.imp (fun _ h => Exists.imp (fun _ h => And.imp id (fun h => ?_) h) h) h
    refine sf_mif (fun h => ?_) (fun h => ?_) h
    · refine sf_mif (fun h => ?_) (fun h => ?_) h
      · intro y9 hy9
        have h := h y9 hy9
        refine sf_mif (fun h => ?_) (fun h => ?_) h
        · intro y11 hy11
          have h := h y11 hy11
          exact hP _ _ _ _ _ _ _ _ _ _ h
        · intro y12 hy12
          have h := h y12 hy12
          intro y13 hy13
          have h := h y13 hy13
          exact hP _ _ _ _ _ _ _ _ _ _ h
      · intro y14 hy14
        have h := h y14 hy14
        refine sf_mif (fun h => ?_) (fun h => ?_) h
        · intro y16 hy16
          have h := h y16 hy16
          exact hP _ _ _ _ _ _ _ _ _ _ h
        · intro y17 hy17
          have h := h y17 hy17
          intro y18 hy18
          have h := h y18 hy18
          exact hP _ _ _ _ _ _ _ _ _ _ h
    · refine sf_mif (fun h => ?_) (fun h => ?_) h
      · intro y20 hy20
        have h := h y20 hy20
        refine sf_mif (fun h => ?_) (fun h => ?_) h
        · intro y22 hy22
          have h := h y22 hy22
          exact hP _ _ _ _ _ _ _ _ _ _ h
        · intro y23 hy23
          have h := h y23 hy23
          intro y24 hy24
          have h := h y24 hy24
          exact hP _ _ _ _ _ _ _ _ _ _ h
      · intro y25 hy25
        have h := h y25 hy25
        refine sf_mif (fun h => ?_) (fun h => ?_) h
        · intro y27 hy27
          have h := h y27 hy27
          exact hP _ _ _ _ _ _ _ _ _ _ h
        · intro y28 hy28
          have h := h y28 hy28
          intro y29 hy29
          have h := h y29 hy29
          exact hP _ _ _ _ _ _ _ _ _ _ h
theorem ru_R_X7_isomers_1 {r : Int32} {τ σ : sf_St} {u0 u1 u2 u3 u4 u5 u6 u7 : Int32} (h : tr_R_X7_isomers_1 (fun t σ u0 u1 u2 u3 u4 u5 u6 u7 => Rn_R_X7_isomers t σ u0 u1 u2 u3 u4 u5 u6 u7 r τ) r τ σ u0 u1 u2 u3 u4 u5 u6 u7) : Rn_R_X7_isomers 1 σ u0 u1 u2 u3 u4 u5 u6 u7 r τ := fun Pr hP => hP 1 σ u0 u1 u2 u3 u4 u5 u6 u7 (mo_R_X7_isomers_1 (fun _ _ _ _ _ _ _ _ _ _ h => h Pr hP) h)
theorem fe_R_X7_isomers_2 {Pr : Nat → sf_St → Int32 → Int32 → Int32 → Int32 → Int32 → Int32 → Int32 → Int32 → Prop} {r : Int32} {τ σ : sf_St} {u0 u1 u2 u3 u4 u5 u6 u7 : Int32} (h : fn_R_X7_isomers Pr r τ 2 σ u0 u1 u2 u3 u4 u5 u6 u7) : tr_R_X7_isomers_2 Pr r τ σ u0 u1 u2 u3 u4 u5 u6 u7 := h
theorem mo_R_X7_isomers_2 {Pr Pr' : Nat → sf_St → Int32 → Int32 → Int32 → Int32 → Int32 → Int32 → Int32 → Int32 → Prop} {r : Int32} {τ σ : sf_St} {u0 u1 u2 u3 u4 u5 u6 u7 : Int32} (hP : ∀ (t : Nat) (σ : sf_St) (u0 u1 u2 u3 u4 u5 u6 u7 : Int32), Pr t σ u0 u1 u2 u3 u4 u5 u6 u7 → Pr' t σ u0 u1 u2 u3 u4 u5 u6 u7) (h : tr_R_X7_isomers_2 Pr r τ σ u0 u1 u2 u3 u4 u5 u6 u7) : tr_R_X7_isomers_2 Pr' r τ σ u0 u1 u2 u3 u4 u5 u6 u7 := by
  unfold tr_R_X7_isomers_2 at h ⊢
  refine sf_mif (fun h => ?_) (fun h => ?_) h
  · refine sf_mif (fun h => ?_) (fun h => ?_) h
    · exact hP _ _ _ _ _ _ _ _ _ _ h
    · exact h
  · refine Exists.imp (fun _ h => Exists.imp (fun _ h => And.imp id (fun h => ?_) h) h) h
    refine sf_mif (fun h => ?_) (fun h => ?_) h
    · refine sf_mif (fun h => ?_) (fun h => ?_) h
      · intro y37 hy37
        have h := h y37 hy37
        refine sf_mif (fun h => ?_) (fun h => ?_) h
        · intro y39 hy39
          have h := h y39 hy39
          exact hP _ _ _ _ _ _ _ _ _ _ h
        · intro y40 hy40
          have h := h y40 hy40
          intro y41 hy41
          have h := h y41 hy41
          exact hP _ _ _ _ _ _ _ _ _ _ h
      · intro y42 hy42
        have h := h y42 hy42
        refine sf_mif (fun h => ?_) (fun h => ?_) h
        · intro y44 hy44
          have h := h y44 hy44
          exact hP _ _ _ _ _ _ _ _ _ _ h
        · intro y45 hy45
          have h := h y45 hy45
          intro y46 hy46
          have h := h y46 hy46
          exact hP _ _ _ _ _ _ _ _ _ _ h
    · refine sf_mif (fun h => ?_) (fun h => ?_) h
      · intro y48 hy48
        have h := h y48 hy48
        refine sf_mif (fun h => ?_) (fun h => ?_) h
        · intro y50 hy50
          have h := h y50 hy50
          exact hP _ _ _ _ _ _ _ _ _ _ h
        · intro y51 hy51
          have h := h y51 hy51
          intro y52 hy52
          have h := h y52 hy52
          exact hP _ _ _ _ _ _ _ _ _ _ h
      · intro y53 hy53
        have h := h y53 hy53
        refine sf_mif (fun h => ?_) (fun h => ?_) h
        · intro y55 hy55
          have h := h y55 hy55
          exact hP _ _ _ _ _ _ _ _ _ _ h
        · intro y56 hy56
          have h := h y56 hy56
          intro y57 hy57
          have h := h y57 hy57
          exact hP _ _ _ _ _ _ _ _ _ _ h
theorem ru_R_X7_isomers_2 {r : Int32} {τ σ : sf_St} {u0 u1 u2 u3 u4 u5 u6 u7 : Int32} (h : tr_R_X7_isomers_2 (fun t σ u0 u1 u2 u3 u4 u5 u6 u7 => Rn_R_X7_isomers t σ u0 u1 u2 u3 u4 u5 u6 u7 r τ) r τ σ u0 u1 u2 u3 u4 u5 u6 u7) : Rn_R_X7_isomers 2 σ u0 u1 u2 u3 u4 u5 u6 u7 r τ := fun Pr hP => hP 2 σ u0 u1 u2 u3 u4 u5 u6 u7 (mo_R_X7_isomers_2 (fun _ _ _ _ _ _ _ _ _ _ h => h Pr hP) h)
theorem fe_R_X7_isomers_3 {Pr : Nat → sf_St → Int32 → Int32 → Int32 → Int32 → Int32 → Int32 → Int32 → Int32 → Prop} {r : Int32} {τ σ : sf_St} {u0 u1 u2 u3 u4 u5 u6 u7 : Int32} (h : fn_R_X7_isomers Pr r τ 3 σ u0 u1 u2 u3 u4 u5 u6 u7) : tr_R_X7_isomers_3 Pr r τ σ u0 u1 u2 u3 u4 u5 u6 u7 := h
theorem mo_R_X7_isomers_3 {Pr Pr' : Nat → sf_St → Int32 → Int32 → Int32 → Int32 → Int32 → Int32 → Int32 → Int32 → Prop} {r : Int32} {τ σ : sf_St} {u0 u1 u2 u3 u4 u5 u6 u7 : Int32} (hP : ∀ (t : Nat) (σ : sf_St) (u0 u1 u2 u3 u4 u5 u6 u7 : Int32), Pr t σ u0 u1 u2 u3 u4 u5 u6 u7 → Pr' t σ u0 u1 u2 u3 u4 u5 u6 u7) (h : tr_R_X7_isomers_3 Pr r τ σ u0 u1 u2 u3 u4 u5 u6 u7) : tr_R_X7_isomers_3 Pr' r τ σ u0 u1 u2 u3 u4 u5 u6 u7 := by
  unfold tr_R_X7_isomers_3 at h ⊢
  refine sf_mif (fun h => ?_) (fun h => ?_) h
  · exact h
  · refine Exists.imp (fun _ h => Exists.imp (fun _ h => And.imp id (fun h => ?_) h) h) h
    exact hP _ _ _ _ _ _ _ _ _ _ h
theorem ru_R_X7_isomers_3 {r : Int32} {τ σ : sf_St} {u0 u1 u2 u3 u4 u5 u6 u7 : Int32} (h : tr_R_X7_isomers_3 (fun t σ u0 u1 u2 u3 u4 u5 u6 u7 => Rn_R_X7_isomers t σ u0 u1 u2 u3 u4 u5 u6 u7 r τ) r τ σ u0 u1 u2 u3 u4 u5 u6 u7) : Rn_R_X7_isomers 3 σ u0 u1 u2 u3 u4 u5 u6 u7 r τ := fun Pr hP => hP 3 σ u0 u1 u2 u3 u4 u5 u6 u7 (mo_R_X7_isomers_3 (fun _ _ _ _ _ _ _ _ _ _ h => h Pr hP) h)
theorem fe_R_X7_isomers_4 {Pr : Nat → sf_St → Int32 → Int32 → Int32 → Int32 → Int32 → Int32 → Int32 → Int32 → Prop} {r : Int32} {τ σ : sf_St} {u0 u1 u2 u3 u4 u5 u6 u7 : Int32} (h : fn_R_X7_isomers Pr r τ 4 σ u0 u1 u2 u3 u4 u5 u6 u7) : tr_R_X7_isomers_4 Pr r τ σ u0 u1 u2 u3 u4 u5 u6 u7 := h
theorem mo_R_X7_isomers_4 {Pr Pr' : Nat → sf_St → Int32 → Int32 → Int32 → Int32 → Int32 → Int32 → Int32 → Int32 → Prop} {r : Int32} {τ σ : sf_St} {u0 u1 u2 u3 u4 u5 u6 u7 : Int32} (hP : ∀ (t : Nat) (σ : sf_St) (u0 u1 u2 u3 u4 u5 u6 u7 : Int32), Pr t σ u0 u1 u2 u3 u4 u5 u6 u7 → Pr' t σ u0 u1 u2 u3 u4 u5 u6 u7) (h : tr_R_X7_isomers_4 Pr r τ σ u0 u1 u2 u3 u4 u5 u6 u7) : tr_R_X7_isomers_4 Pr' r τ σ u0 u1 u2 u3 u4 u5 u6 u7 := by
  unfold tr_R_X7_isomers_4 at h ⊢
  refine sf_mif (fun h => ?_) (fun h => ?_) h
  · refine sf_mif (fun h => ?_) (fun h => ?_) h
    · refine And.imp id (fun h => ?_) h
      intro τ68 hτ68
      have h := h τ68 hτ68
      intro y69 hy69
      have h := h y69 hy69
      refine sf_mif (fun h => ?_) (fun h => ?_) h
      · intro y71 hy71
        have h := h y71 hy71
        exact hP _ _ _ _ _ _ _ _ _ _ h
      · intro y72 hy72
        have h := h y72 hy72
        exact hP _ _ _ _ _ _ _ _ _ _ h
    · refine sf_mif (fun h => ?_) (fun h => ?_) h
      · intro y65 hy65
        have h := h y65 hy65
        exact hP _ _ _ _ _ _ _ _ _ _ h
      · intro y66 hy66
        have h := h y66 hy66
        exact hP _ _ _ _ _ _ _ _ _ _ h
  · refine sf_mif (fun h => ?_) (fun h => ?_) h
    · refine And.imp id (fun h => ?_) h
      refine sf_mif (fun h => ?_) (fun h => ?_) h
      · intro y78 hy78
        have h := h y78 hy78
        exact hP _ _ _ _ _ _ _ _ _ _ h
      · intro y77 hy77
        have h := h y77 hy77
        exact hP _ _ _ _ _ _ _ _ _ _ h
    · intro y74 hy74
      have h := h y74 hy74
      exact hP _ _ _ _ _ _ _ _ _ _ h
theorem ru_R_X7_isomers_4 {r : Int32} {τ σ : sf_St} {u0 u1 u2 u3 u4 u5 u6 u7 : Int32} (h : tr_R_X7_isomers_4 (fun t σ u0 u1 u2 u3 u4 u5 u6 u7 => Rn_R_X7_isomers t σ u0 u1 u2 u3 u4 u5 u6 u7 r τ) r τ σ u0 u1 u2 u3 u4 u5 u6 u7) : Rn_R_X7_isomers 4 σ u0 u1 u2 u3 u4 u5 u6 u7 r τ := fun Pr hP => hP 4 σ u0 u1 u2 u3 u4 u5 u6 u7 (mo_R_X7_isomers_4 (fun _ _ _ _ _ _ _ _ _ _ h => h Pr hP) h)
set_option maxHeartbeats 4000000 in
set_option maxRecDepth 100000 in
theorem c_X7_isomers {l : Launch} {D : va_G} {q : Nat → Nat} {dA : Nat → ClassId}  (hq : sf_inj q KM) {σ τ : sf_St} {r : Int32} (h : R_X7_isomers σ  r τ) : sf_Mi l yX7_isomers wsX7_isomers ({ frames := 6, cells := 0, slots := 0, locals := 147 }) D vwCl q dA KM sf_EM [.ref (q 0)] σ r τ := by
  refine sf_meti (cc := cX7_isomers) (maxL := 9) (ret := (some .int)) (own := RX7) (by decide +kernel) rfl rfl hq sf_EMk (Nat.le_of_ble_eq_true rfl) ?_
  intro p e s m args below meth c X
  refine sf_loc (lv' := [(0, .ref (q 0))]) [0] rfl ?_
  refine h (fun t σ u0 u1 u2 u3 u4 u5 u6 u7 => match t with
    | 0 => sf_G p l e (headSpec wsX7_isomers ({ frames := 6, cells := 0, slots := 0, locals := 147 })).room s m args below meth c (sf_Qi D vwCl q dA KM sf_EM below args s r τ) 9 D vwCl q dA KM σ 0 [(0, .ref (q 0))] []
    | 1 => sf_G p l e (headSpec wsX7_isomers ({ frames := 6, cells := 0, slots := 0, locals := 147 })).room s m args below meth c (sf_Qi D vwCl q dA KM sf_EM below args s r τ) 9 D vwCl q dA KM σ 10 [(0, .ref (q 0)), (1, .int u0), (2, .int u1), (3, .int u2)] []
    | 2 => sf_G p l e (headSpec wsX7_isomers ({ frames := 6, cells := 0, slots := 0, locals := 147 })).room s m args below meth c (sf_Qi D vwCl q dA KM sf_EM below args s r τ) 9 D vwCl q dA KM σ 69 [(0, .ref (q 0)), (1, .int u0), (2, .int u1), (3, .int u2)] []
    | 3 => sf_G p l e (headSpec wsX7_isomers ({ frames := 6, cells := 0, slots := 0, locals := 147 })).room s m args below meth c (sf_Qi D vwCl q dA KM sf_EM below args s r τ) 9 D vwCl q dA KM σ 144 [(0, .ref (q 0)), (1, .int u0), (2, .int u1), (3, .int u2), (4, .int u3), (5, .int u4)] []
    | 4 => sf_G p l e (headSpec wsX7_isomers ({ frames := 6, cells := 0, slots := 0, locals := 147 })).room s m args below meth c (sf_Qi D vwCl q dA KM sf_EM below args s r τ) 9 D vwCl q dA KM σ 163 [(0, .ref (q 0)), (1, .int u0), (2, .int u1), (3, .int u2), (4, .int u3), (5, .int u4), (6, .int u5), (7, .int u6), (8, .int u7)] []
    | _ => True) ?_
  intro t σ u0 u1 u2 u3 u4 u5 u6 u7 h
  match t, h with
  | 0, h =>
      replace h := fe_R_X7_isomers_0 h
      unfold tr_R_X7_isomers_0 at h
      show sf_G p l e (headSpec wsX7_isomers ({ frames := 6, cells := 0, slots := 0, locals := 147 })).room s m args below meth c (sf_Qi D vwCl q dA KM sf_EM below args s r τ) 9 D vwCl q dA KM σ 0 [(0, .ref (q 0))] []
      refine sf_iconst (v := 0) X dX7_isomers_0 sf_ic_0 rfl ?_
      refine sf_istore_n (i := 1) (lv' := [(1, .int (0 : Int32)), (0, .ref (q 0))]) X dX7_isomers_1 rfl (by decide) rfl rfl ?_
      refine sf_iconst (v := 0) X dX7_isomers_2 sf_ic_0 rfl ?_
      refine sf_istore_n (i := 2) (lv' := [(2, .int (0 : Int32)), (1, .int (0 : Int32)), (0, .ref (q 0))]) X dX7_isomers_3 rfl (by decide) rfl rfl ?_
      refine sf_aload_n (i := 0) (j := 2) X dX7_isomers_4 rfl rfl rfl ?_
      obtain ⟨τ2, hR1, h⟩ := h
      refine sf_callVv (As := []) (rest := []) (cv := (RX7, TX7, 23)) X rfl rfl (c_X7_ownNumbers hq hR1) (cwV 0 X.1.2.2.2.2 (sf_gV tw_755 tw_757 tw_19 tw_48 tw_758) rfl rfl rfl ⟨rfl, hd_X7_ownNumbers⟩ ⟨Nat.le_of_ble_eq_true rfl, Nat.le_of_ble_eq_true rfl⟩) rfl rfl (Nat.le_of_ble_eq_true rfl) dX7_isomers_5 rfl ?_
      refine sf_iconst (v := 0) X dX7_isomers_8 sf_ic_0 rfl ?_
      refine sf_istore_n (i := 3) (lv' := [(3, .int (0 : Int32)), (2, .int (0 : Int32)), (1, .int (0 : Int32)), (0, .ref (q 0))]) X dX7_isomers_9 rfl (by decide) rfl rfl ?_
      refine sf_loc (lv' := [(0, .ref (q 0)), (1, .int (0 : Int32)), (2, .int (0 : Int32)), (3, .int (0 : Int32))]) [3, 2, 1, 0] rfl ?_
      exact h
  | 1, h =>
      replace h := fe_R_X7_isomers_1 h
      unfold tr_R_X7_isomers_1 at h
      show sf_G p l e (headSpec wsX7_isomers ({ frames := 6, cells := 0, slots := 0, locals := 147 })).room s m args below meth c (sf_Qi D vwCl q dA KM sf_EM below args s r τ) 9 D vwCl q dA KM σ 10 [(0, .ref (q 0)), (1, .int u0), (2, .int u1), (3, .int u2)] []
      refine sf_iload_n (i := 3) (j := 3) X dX7_isomers_10 rfl rfl rfl ?_
      refine sf_aload_n (i := 0) (j := 0) X dX7_isomers_11 rfl rfl rfl ?_
      refine sf_getI (C := RX7) (T := TX7) (N := 23) (ci := 7) (j := 0) X (fun w h => sf_memc (inX7 w h)) rfl rfl (by decide) (X.1.2.2.2.2 _ (sf_memc tw_631)) (fun _ h9 => h9) rfl dX7_isomers_12 rfl ?_
      refine sf_icmp_ge (tgt := 67) X dX7_isomers_15 rfl rfl (fun c3 => ?_) (fun c3 => ?_)
      · have h := sf_ift c3 h
        refine sf_iconst (v := 0) X dX7_isomers_67 sf_ic_0 rfl ?_
        refine sf_istore_n (i := 3) (lv' := [(3, .int (0 : Int32)), (0, .ref (q 0)), (1, .int u0), (2, .int u1)]) X dX7_isomers_68 rfl (by decide) rfl rfl ?_
        refine sf_loc (lv' := [(0, .ref (q 0)), (1, .int u0), (2, .int u1), (3, .int (0 : Int32))]) [1, 2, 3, 0] rfl ?_
        exact h
      · have h := sf_iff c3 h
        refine sf_aload_n (i := 0) (j := 0) X dX7_isomers_18 rfl rfl rfl ?_
        refine sf_iload_n (i := 3) (j := 3) X dX7_isomers_19 rfl rfl rfl ?_
        obtain ⟨r6, τ5, hR4, h⟩ := h
        refine sf_callVi (As := [.int u2]) (rest := []) (cv := (RX7, TX7, 23)) X rfl rfl (c_X7_centreSense hq hR4) (cwV 1 X.1.2.2.2.2 (sf_gV tw_759 tw_761 tw_20 tw_48 tw_762) rfl rfl rfl ⟨rfl, hd_X7_centreSense⟩ ⟨Nat.le_of_ble_eq_true rfl, Nat.le_of_ble_eq_true rfl⟩) rfl rfl (Nat.le_of_ble_eq_true rfl) dX7_isomers_20 rfl ?_
        refine sf_if_eq (tgt := 30) X dX7_isomers_23 rfl rfl (fun c7 => ?_) (fun c7 => ?_)
        · have h := sf_ift c7 h
          refine sf_iconst (v := 0) X dX7_isomers_30 sf_ic_0 rfl ?_
          refine sf_istore (i := 4) (lv' := [(4, .int (0 : Int32)), (0, .ref (q 0)), (1, .int u0), (2, .int u1), (3, .int u2)]) X dX7_isomers_31 (by decide) rfl rfl ?_
          refine sf_iload_n (i := 1) (j := 2) X dX7_isomers_33 rfl rfl rfl ?_
          refine sf_iload (i := 4) (j := 0) X dX7_isomers_34 rfl rfl ?_
          refine sf_if_eq (tgt := 43) X dX7_isomers_36 rfl rfl (fun c8 => ?_) (fun c8 => ?_)
          · have h := sf_ift c8 h
            refine sf_iconst (v := 0) X dX7_isomers_43 sf_ic_0 rfl ?_
            refine sf_iadd X dX7_isomers_44 rfl ?_
            refine sf_top (fun y9 hy9 => ?_)
            have h := h y9 hy9
            refine sf_istore_n (i := 1) (lv' := [(1, .int y9), (4, .int (0 : Int32)), (0, .ref (q 0)), (2, .int u1), (3, .int u2)]) X dX7_isomers_45 rfl (by decide) rfl rfl ?_
            refine sf_iload (i := 4) (j := 1) X dX7_isomers_46 rfl rfl ?_
            refine sf_if_eq (tgt := 59) X dX7_isomers_48 rfl rfl (fun c10 => ?_) (fun c10 => ?_)
            · have h := sf_ift c10 h
              refine sf_iload_n (i := 2) (j := 3) X dX7_isomers_59 rfl rfl rfl ?_
              refine sf_istore_n (i := 2) (lv' := [(2, .int u1), (1, .int y9), (4, .int (0 : Int32)), (0, .ref (q 0)), (3, .int u2)]) X dX7_isomers_60 rfl (by decide) rfl rfl ?_
              refine sf_iinc (i := 3) (j := 4) (d := 1) (lv' := fun y11 => [(3, .int y11), (2, .int u1), (1, .int y9), (4, .int (0 : Int32)), (0, .ref (q 0))]) X dX7_isomers_61 rfl sf_ic_1 (by decide) (fun _ => rfl) rfl (fun y11 hy11 => ?_)
              have h := h y11 hy11
              refine sf_goto (tgt := 10) X dX7_isomers_64 rfl ?_
              refine sf_loc (lv' := [(0, .ref (q 0)), (1, .int y9), (2, .int u1), (3, .int y11)]) [4, 2, 1, 0] rfl ?_
              exact h
            · have h := sf_iff c10 h
              refine sf_iload_n (i := 2) (j := 3) X dX7_isomers_51 rfl rfl rfl ?_
              refine sf_iconst (v := 1) X dX7_isomers_52 sf_ic_1 rfl ?_
              refine sf_iload_n (i := 3) (j := 4) X dX7_isomers_53 rfl rfl rfl ?_
              refine sf_ishl X dX7_isomers_54 rfl ?_
              refine sf_ior X dX7_isomers_55 rfl ?_
              refine sf_goto (tgt := 60) X dX7_isomers_56 rfl ?_
              refine sf_top (fun y12 hy12 => ?_)
              have h := h y12 hy12
              refine sf_istore_n (i := 2) (lv' := [(2, .int y12), (1, .int y9), (4, .int (0 : Int32)), (0, .ref (q 0)), (3, .int u2)]) X dX7_isomers_60 rfl (by decide) rfl rfl ?_
              refine sf_iinc (i := 3) (j := 4) (d := 1) (lv' := fun y13 => [(3, .int y13), (2, .int y12), (1, .int y9), (4, .int (0 : Int32)), (0, .ref (q 0))]) X dX7_isomers_61 rfl sf_ic_1 (by decide) (fun _ => rfl) rfl (fun y13 hy13 => ?_)
              have h := h y13 hy13
              refine sf_goto (tgt := 10) X dX7_isomers_64 rfl ?_
              refine sf_loc (lv' := [(0, .ref (q 0)), (1, .int y9), (2, .int y12), (3, .int y13)]) [4, 2, 1, 0] rfl ?_
              exact h
          · have h := sf_iff c8 h
            refine sf_iconst (v := 1) X dX7_isomers_39 sf_ic_1 rfl ?_
            refine sf_goto (tgt := 44) X dX7_isomers_40 rfl ?_
            refine sf_iadd X dX7_isomers_44 rfl ?_
            refine sf_top (fun y14 hy14 => ?_)
            have h := h y14 hy14
            refine sf_istore_n (i := 1) (lv' := [(1, .int y14), (4, .int (0 : Int32)), (0, .ref (q 0)), (2, .int u1), (3, .int u2)]) X dX7_isomers_45 rfl (by decide) rfl rfl ?_
            refine sf_iload (i := 4) (j := 1) X dX7_isomers_46 rfl rfl ?_
            refine sf_if_eq (tgt := 59) X dX7_isomers_48 rfl rfl (fun c15 => ?_) (fun c15 => ?_)
            · have h := sf_ift c15 h
              refine sf_iload_n (i := 2) (j := 3) X dX7_isomers_59 rfl rfl rfl ?_
              refine sf_istore_n (i := 2) (lv' := [(2, .int u1), (1, .int y14), (4, .int (0 : Int32)), (0, .ref (q 0)), (3, .int u2)]) X dX7_isomers_60 rfl (by decide) rfl rfl ?_
              refine sf_iinc (i := 3) (j := 4) (d := 1) (lv' := fun y16 => [(3, .int y16), (2, .int u1), (1, .int y14), (4, .int (0 : Int32)), (0, .ref (q 0))]) X dX7_isomers_61 rfl sf_ic_1 (by decide) (fun _ => rfl) rfl (fun y16 hy16 => ?_)
              have h := h y16 hy16
              refine sf_goto (tgt := 10) X dX7_isomers_64 rfl ?_
              refine sf_loc (lv' := [(0, .ref (q 0)), (1, .int y14), (2, .int u1), (3, .int y16)]) [4, 2, 1, 0] rfl ?_
              exact h
            · have h := sf_iff c15 h
              refine sf_iload_n (i := 2) (j := 3) X dX7_isomers_51 rfl rfl rfl ?_
              refine sf_iconst (v := 1) X dX7_isomers_52 sf_ic_1 rfl ?_
              refine sf_iload_n (i := 3) (j := 4) X dX7_isomers_53 rfl rfl rfl ?_
              refine sf_ishl X dX7_isomers_54 rfl ?_
              refine sf_ior X dX7_isomers_55 rfl ?_
              refine sf_goto (tgt := 60) X dX7_isomers_56 rfl ?_
              refine sf_top (fun y17 hy17 => ?_)
              have h := h y17 hy17
              refine sf_istore_n (i := 2) (lv' := [(2, .int y17), (1, .int y14), (4, .int (0 : Int32)), (0, .ref (q 0)), (3, .int u2)]) X dX7_isomers_60 rfl (by decide) rfl rfl ?_
              refine sf_iinc (i := 3) (j := 4) (d := 1) (lv' := fun y18 => [(3, .int y18), (2, .int y17), (1, .int y14), (4, .int (0 : Int32)), (0, .ref (q 0))]) X dX7_isomers_61 rfl sf_ic_1 (by decide) (fun _ => rfl) rfl (fun y18 hy18 => ?_)
              have h := h y18 hy18
              refine sf_goto (tgt := 10) X dX7_isomers_64 rfl ?_
              refine sf_loc (lv' := [(0, .ref (q 0)), (1, .int y14), (2, .int y17), (3, .int y18)]) [4, 2, 1, 0] rfl ?_
              exact h
        · have h := sf_iff c7 h
          refine sf_iconst (v := 1) X dX7_isomers_26 sf_ic_1 rfl ?_
          refine sf_goto (tgt := 31) X dX7_isomers_27 rfl ?_
          refine sf_istore (i := 4) (lv' := [(4, .int (1 : Int32)), (0, .ref (q 0)), (1, .int u0), (2, .int u1), (3, .int u2)]) X dX7_isomers_31 (by decide) rfl rfl ?_
          refine sf_iload_n (i := 1) (j := 2) X dX7_isomers_33 rfl rfl rfl ?_
          refine sf_iload (i := 4) (j := 0) X dX7_isomers_34 rfl rfl ?_
          refine sf_if_eq (tgt := 43) X dX7_isomers_36 rfl rfl (fun c19 => ?_) (fun c19 => ?_)
          · have h := sf_ift c19 h
            refine sf_iconst (v := 0) X dX7_isomers_43 sf_ic_0 rfl ?_
            refine sf_iadd X dX7_isomers_44 rfl ?_
            refine sf_top (fun y20 hy20 => ?_)
            have h := h y20 hy20
            refine sf_istore_n (i := 1) (lv' := [(1, .int y20), (4, .int (1 : Int32)), (0, .ref (q 0)), (2, .int u1), (3, .int u2)]) X dX7_isomers_45 rfl (by decide) rfl rfl ?_
            refine sf_iload (i := 4) (j := 1) X dX7_isomers_46 rfl rfl ?_
            refine sf_if_eq (tgt := 59) X dX7_isomers_48 rfl rfl (fun c21 => ?_) (fun c21 => ?_)
            · have h := sf_ift c21 h
              refine sf_iload_n (i := 2) (j := 3) X dX7_isomers_59 rfl rfl rfl ?_
              refine sf_istore_n (i := 2) (lv' := [(2, .int u1), (1, .int y20), (4, .int (1 : Int32)), (0, .ref (q 0)), (3, .int u2)]) X dX7_isomers_60 rfl (by decide) rfl rfl ?_
              refine sf_iinc (i := 3) (j := 4) (d := 1) (lv' := fun y22 => [(3, .int y22), (2, .int u1), (1, .int y20), (4, .int (1 : Int32)), (0, .ref (q 0))]) X dX7_isomers_61 rfl sf_ic_1 (by decide) (fun _ => rfl) rfl (fun y22 hy22 => ?_)
              have h := h y22 hy22
              refine sf_goto (tgt := 10) X dX7_isomers_64 rfl ?_
              refine sf_loc (lv' := [(0, .ref (q 0)), (1, .int y20), (2, .int u1), (3, .int y22)]) [4, 2, 1, 0] rfl ?_
              exact h
            · have h := sf_iff c21 h
              refine sf_iload_n (i := 2) (j := 3) X dX7_isomers_51 rfl rfl rfl ?_
              refine sf_iconst (v := 1) X dX7_isomers_52 sf_ic_1 rfl ?_
              refine sf_iload_n (i := 3) (j := 4) X dX7_isomers_53 rfl rfl rfl ?_
              refine sf_ishl X dX7_isomers_54 rfl ?_
              refine sf_ior X dX7_isomers_55 rfl ?_
              refine sf_goto (tgt := 60) X dX7_isomers_56 rfl ?_
              refine sf_top (fun y23 hy23 => ?_)
              have h := h y23 hy23
              refine sf_istore_n (i := 2) (lv' := [(2, .int y23), (1, .int y20), (4, .int (1 : Int32)), (0, .ref (q 0)), (3, .int u2)]) X dX7_isomers_60 rfl (by decide) rfl rfl ?_
              refine sf_iinc (i := 3) (j := 4) (d := 1) (lv' := fun y24 => [(3, .int y24), (2, .int y23), (1, .int y20), (4, .int (1 : Int32)), (0, .ref (q 0))]) X dX7_isomers_61 rfl sf_ic_1 (by decide) (fun _ => rfl) rfl (fun y24 hy24 => ?_)
              have h := h y24 hy24
              refine sf_goto (tgt := 10) X dX7_isomers_64 rfl ?_
              refine sf_loc (lv' := [(0, .ref (q 0)), (1, .int y20), (2, .int y23), (3, .int y24)]) [4, 2, 1, 0] rfl ?_
              exact h
          · have h := sf_iff c19 h
            refine sf_iconst (v := 1) X dX7_isomers_39 sf_ic_1 rfl ?_
            refine sf_goto (tgt := 44) X dX7_isomers_40 rfl ?_
            refine sf_iadd X dX7_isomers_44 rfl ?_
            refine sf_top (fun y25 hy25 => ?_)
            have h := h y25 hy25
            refine sf_istore_n (i := 1) (lv' := [(1, .int y25), (4, .int (1 : Int32)), (0, .ref (q 0)), (2, .int u1), (3, .int u2)]) X dX7_isomers_45 rfl (by decide) rfl rfl ?_
            refine sf_iload (i := 4) (j := 1) X dX7_isomers_46 rfl rfl ?_
            refine sf_if_eq (tgt := 59) X dX7_isomers_48 rfl rfl (fun c26 => ?_) (fun c26 => ?_)
            · have h := sf_ift c26 h
              refine sf_iload_n (i := 2) (j := 3) X dX7_isomers_59 rfl rfl rfl ?_
              refine sf_istore_n (i := 2) (lv' := [(2, .int u1), (1, .int y25), (4, .int (1 : Int32)), (0, .ref (q 0)), (3, .int u2)]) X dX7_isomers_60 rfl (by decide) rfl rfl ?_
              refine sf_iinc (i := 3) (j := 4) (d := 1) (lv' := fun y27 => [(3, .int y27), (2, .int u1), (1, .int y25), (4, .int (1 : Int32)), (0, .ref (q 0))]) X dX7_isomers_61 rfl sf_ic_1 (by decide) (fun _ => rfl) rfl (fun y27 hy27 => ?_)
              have h := h y27 hy27
              refine sf_goto (tgt := 10) X dX7_isomers_64 rfl ?_
              refine sf_loc (lv' := [(0, .ref (q 0)), (1, .int y25), (2, .int u1), (3, .int y27)]) [4, 2, 1, 0] rfl ?_
              exact h
            · have h := sf_iff c26 h
              refine sf_iload_n (i := 2) (j := 3) X dX7_isomers_51 rfl rfl rfl ?_
              refine sf_iconst (v := 1) X dX7_isomers_52 sf_ic_1 rfl ?_
              refine sf_iload_n (i := 3) (j := 4) X dX7_isomers_53 rfl rfl rfl ?_
              refine sf_ishl X dX7_isomers_54 rfl ?_
              refine sf_ior X dX7_isomers_55 rfl ?_
              refine sf_goto (tgt := 60) X dX7_isomers_56 rfl ?_
              refine sf_top (fun y28 hy28 => ?_)
              have h := h y28 hy28
              refine sf_istore_n (i := 2) (lv' := [(2, .int y28), (1, .int y25), (4, .int (1 : Int32)), (0, .ref (q 0)), (3, .int u2)]) X dX7_isomers_60 rfl (by decide) rfl rfl ?_
              refine sf_iinc (i := 3) (j := 4) (d := 1) (lv' := fun y29 => [(3, .int y29), (2, .int y28), (1, .int y25), (4, .int (1 : Int32)), (0, .ref (q 0))]) X dX7_isomers_61 rfl sf_ic_1 (by decide) (fun _ => rfl) rfl (fun y29 hy29 => ?_)
              have h := h y29 hy29
              refine sf_goto (tgt := 10) X dX7_isomers_64 rfl ?_
              refine sf_loc (lv' := [(0, .ref (q 0)), (1, .int y25), (2, .int y28), (3, .int y29)]) [4, 2, 1, 0] rfl ?_
              exact h
  | 2, h =>
      replace h := fe_R_X7_isomers_2 h
      unfold tr_R_X7_isomers_2 at h
      show sf_G p l e (headSpec wsX7_isomers ({ frames := 6, cells := 0, slots := 0, locals := 147 })).room s m args below meth c (sf_Qi D vwCl q dA KM sf_EM below args s r τ) 9 D vwCl q dA KM σ 69 [(0, .ref (q 0)), (1, .int u0), (2, .int u1), (3, .int u2)] []
      refine sf_iload_n (i := 3) (j := 3) X dX7_isomers_69 rfl rfl rfl ?_
      refine sf_aload_n (i := 0) (j := 0) X dX7_isomers_70 rfl rfl rfl ?_
      refine sf_getI (C := RX7) (T := TX7) (N := 23) (ci := 7) (j := 4) X (fun w h => sf_memc (inX7 w h)) rfl rfl (by decide) (X.1.2.2.2.2 _ (sf_memc tw_635)) (fun _ h9 => h9) rfl dX7_isomers_71 rfl ?_
      refine sf_icmp_ge (tgt := 129) X dX7_isomers_74 rfl rfl (fun c30 => ?_) (fun c30 => ?_)
      · have h := sf_ift c30 h
        refine sf_iload_n (i := 1) (j := 1) X dX7_isomers_129 rfl rfl rfl ?_
        refine sf_iconst (v := 4) X dX7_isomers_130 sf_ic_4 rfl ?_
        refine sf_icmp_le (tgt := 136) X dX7_isomers_131 rfl rfl (fun c31 => ?_) (fun c31 => ?_)
        · have h := sf_ift c31 h
          refine sf_iconst (v := 0) X dX7_isomers_136 sf_ic_0 rfl ?_
          refine sf_istore_n (i := 3) (lv' := [(3, .int (0 : Int32)), (0, .ref (q 0)), (1, .int u0), (2, .int u1)]) X dX7_isomers_137 rfl (by decide) rfl rfl ?_
          refine sf_iload_n (i := 2) (j := 3) X dX7_isomers_138 rfl rfl rfl ?_
          refine sf_istore (i := 4) (lv' := [(4, .int u1), (3, .int (0 : Int32)), (0, .ref (q 0)), (1, .int u0), (2, .int u1)]) X dX7_isomers_139 (by decide) rfl rfl ?_
          refine sf_iconst (v := 1) X dX7_isomers_141 sf_ic_1 rfl ?_
          refine sf_istore (i := 5) (lv' := [(5, .int (1 : Int32)), (4, .int u1), (3, .int (0 : Int32)), (0, .ref (q 0)), (1, .int u0), (2, .int u1)]) X dX7_isomers_142 (by decide) rfl rfl ?_
          refine sf_loc (lv' := [(0, .ref (q 0)), (1, .int u0), (2, .int u1), (3, .int (0 : Int32)), (4, .int u1), (5, .int (1 : Int32))]) [3, 4, 5, 2, 1, 0] rfl ?_
          exact h
        · have h := sf_iff c31 h
          refine sf_iconst (v := (-1)) X dX7_isomers_134 sf_ic_m1 rfl ?_
          exact sf_reti X h dX7_isomers_135
      · have h := sf_iff c30 h
        refine sf_aload_n (i := 0) (j := 0) X dX7_isomers_77 rfl rfl rfl ?_
        refine sf_iload_n (i := 3) (j := 3) X dX7_isomers_78 rfl rfl rfl ?_
        obtain ⟨r34, τ33, hR32, h⟩ := h
        refine sf_callVi (As := [.int u2]) (rest := []) (cv := (RX7, TX7, 23)) X rfl rfl (c_X7_hingeSense hq hR32) (cwV 1 X.1.2.2.2.2 (sf_gV tw_782 tw_784 tw_24 tw_48 tw_785) rfl rfl rfl ⟨rfl, hd_X7_hingeSense⟩ ⟨Nat.le_of_ble_eq_true rfl, Nat.le_of_ble_eq_true rfl⟩) rfl rfl (Nat.le_of_ble_eq_true rfl) dX7_isomers_79 rfl ?_
        refine sf_if_eq (tgt := 89) X dX7_isomers_82 rfl rfl (fun c35 => ?_) (fun c35 => ?_)
        · have h := sf_ift c35 h
          refine sf_iconst (v := 0) X dX7_isomers_89 sf_ic_0 rfl ?_
          refine sf_istore (i := 4) (lv' := [(4, .int (0 : Int32)), (0, .ref (q 0)), (1, .int u0), (2, .int u1), (3, .int u2)]) X dX7_isomers_90 (by decide) rfl rfl ?_
          refine sf_iload_n (i := 1) (j := 2) X dX7_isomers_92 rfl rfl rfl ?_
          refine sf_iload (i := 4) (j := 0) X dX7_isomers_93 rfl rfl ?_
          refine sf_if_eq (tgt := 102) X dX7_isomers_95 rfl rfl (fun c36 => ?_) (fun c36 => ?_)
          · have h := sf_ift c36 h
            refine sf_iconst (v := 0) X dX7_isomers_102 sf_ic_0 rfl ?_
            refine sf_iadd X dX7_isomers_103 rfl ?_
            refine sf_top (fun y37 hy37 => ?_)
            have h := h y37 hy37
            refine sf_istore_n (i := 1) (lv' := [(1, .int y37), (4, .int (0 : Int32)), (0, .ref (q 0)), (2, .int u1), (3, .int u2)]) X dX7_isomers_104 rfl (by decide) rfl rfl ?_
            refine sf_iload (i := 4) (j := 1) X dX7_isomers_105 rfl rfl ?_
            refine sf_if_eq (tgt := 121) X dX7_isomers_107 rfl rfl (fun c38 => ?_) (fun c38 => ?_)
            · have h := sf_ift c38 h
              refine sf_iload_n (i := 2) (j := 3) X dX7_isomers_121 rfl rfl rfl ?_
              refine sf_istore_n (i := 2) (lv' := [(2, .int u1), (1, .int y37), (4, .int (0 : Int32)), (0, .ref (q 0)), (3, .int u2)]) X dX7_isomers_122 rfl (by decide) rfl rfl ?_
              refine sf_iinc (i := 3) (j := 4) (d := 1) (lv' := fun y39 => [(3, .int y39), (2, .int u1), (1, .int y37), (4, .int (0 : Int32)), (0, .ref (q 0))]) X dX7_isomers_123 rfl sf_ic_1 (by decide) (fun _ => rfl) rfl (fun y39 hy39 => ?_)
              have h := h y39 hy39
              refine sf_goto (tgt := 69) X dX7_isomers_126 rfl ?_
              refine sf_loc (lv' := [(0, .ref (q 0)), (1, .int y37), (2, .int u1), (3, .int y39)]) [4, 2, 1, 0] rfl ?_
              exact h
            · have h := sf_iff c38 h
              refine sf_iload_n (i := 2) (j := 3) X dX7_isomers_110 rfl rfl rfl ?_
              refine sf_iconst (v := 1) X dX7_isomers_111 sf_ic_1 rfl ?_
              refine sf_bipush (v := 7) X dX7_isomers_112 sf_bc_7 rfl ?_
              refine sf_iload_n (i := 3) (j := 4) X dX7_isomers_114 rfl rfl rfl ?_
              refine sf_iadd X dX7_isomers_115 rfl ?_
              refine sf_ishl X dX7_isomers_116 rfl ?_
              refine sf_ior X dX7_isomers_117 rfl ?_
              refine sf_goto (tgt := 122) X dX7_isomers_118 rfl ?_
              refine sf_top (fun y40 hy40 => ?_)
              have h := h y40 hy40
              refine sf_istore_n (i := 2) (lv' := [(2, .int y40), (1, .int y37), (4, .int (0 : Int32)), (0, .ref (q 0)), (3, .int u2)]) X dX7_isomers_122 rfl (by decide) rfl rfl ?_
              refine sf_iinc (i := 3) (j := 4) (d := 1) (lv' := fun y41 => [(3, .int y41), (2, .int y40), (1, .int y37), (4, .int (0 : Int32)), (0, .ref (q 0))]) X dX7_isomers_123 rfl sf_ic_1 (by decide) (fun _ => rfl) rfl (fun y41 hy41 => ?_)
              have h := h y41 hy41
              refine sf_goto (tgt := 69) X dX7_isomers_126 rfl ?_
              refine sf_loc (lv' := [(0, .ref (q 0)), (1, .int y37), (2, .int y40), (3, .int y41)]) [4, 2, 1, 0] rfl ?_
              exact h
          · have h := sf_iff c36 h
            refine sf_iconst (v := 1) X dX7_isomers_98 sf_ic_1 rfl ?_
            refine sf_goto (tgt := 103) X dX7_isomers_99 rfl ?_
            refine sf_iadd X dX7_isomers_103 rfl ?_
            refine sf_top (fun y42 hy42 => ?_)
            have h := h y42 hy42
            refine sf_istore_n (i := 1) (lv' := [(1, .int y42), (4, .int (0 : Int32)), (0, .ref (q 0)), (2, .int u1), (3, .int u2)]) X dX7_isomers_104 rfl (by decide) rfl rfl ?_
            refine sf_iload (i := 4) (j := 1) X dX7_isomers_105 rfl rfl ?_
            refine sf_if_eq (tgt := 121) X dX7_isomers_107 rfl rfl (fun c43 => ?_) (fun c43 => ?_)
            · have h := sf_ift c43 h
              refine sf_iload_n (i := 2) (j := 3) X dX7_isomers_121 rfl rfl rfl ?_
              refine sf_istore_n (i := 2) (lv' := [(2, .int u1), (1, .int y42), (4, .int (0 : Int32)), (0, .ref (q 0)), (3, .int u2)]) X dX7_isomers_122 rfl (by decide) rfl rfl ?_
              refine sf_iinc (i := 3) (j := 4) (d := 1) (lv' := fun y44 => [(3, .int y44), (2, .int u1), (1, .int y42), (4, .int (0 : Int32)), (0, .ref (q 0))]) X dX7_isomers_123 rfl sf_ic_1 (by decide) (fun _ => rfl) rfl (fun y44 hy44 => ?_)
              have h := h y44 hy44
              refine sf_goto (tgt := 69) X dX7_isomers_126 rfl ?_
              refine sf_loc (lv' := [(0, .ref (q 0)), (1, .int y42), (2, .int u1), (3, .int y44)]) [4, 2, 1, 0] rfl ?_
              exact h
            · have h := sf_iff c43 h
              refine sf_iload_n (i := 2) (j := 3) X dX7_isomers_110 rfl rfl rfl ?_
              refine sf_iconst (v := 1) X dX7_isomers_111 sf_ic_1 rfl ?_
              refine sf_bipush (v := 7) X dX7_isomers_112 sf_bc_7 rfl ?_
              refine sf_iload_n (i := 3) (j := 4) X dX7_isomers_114 rfl rfl rfl ?_
              refine sf_iadd X dX7_isomers_115 rfl ?_
              refine sf_ishl X dX7_isomers_116 rfl ?_
              refine sf_ior X dX7_isomers_117 rfl ?_
              refine sf_goto (tgt := 122) X dX7_isomers_118 rfl ?_
              refine sf_top (fun y45 hy45 => ?_)
              have h := h y45 hy45
              refine sf_istore_n (i := 2) (lv' := [(2, .int y45), (1, .int y42), (4, .int (0 : Int32)), (0, .ref (q 0)), (3, .int u2)]) X dX7_isomers_122 rfl (by decide) rfl rfl ?_
              refine sf_iinc (i := 3) (j := 4) (d := 1) (lv' := fun y46 => [(3, .int y46), (2, .int y45), (1, .int y42), (4, .int (0 : Int32)), (0, .ref (q 0))]) X dX7_isomers_123 rfl sf_ic_1 (by decide) (fun _ => rfl) rfl (fun y46 hy46 => ?_)
              have h := h y46 hy46
              refine sf_goto (tgt := 69) X dX7_isomers_126 rfl ?_
              refine sf_loc (lv' := [(0, .ref (q 0)), (1, .int y42), (2, .int y45), (3, .int y46)]) [4, 2, 1, 0] rfl ?_
              exact h
        · have h := sf_iff c35 h
          refine sf_iconst (v := 1) X dX7_isomers_85 sf_ic_1 rfl ?_
          refine sf_goto (tgt := 90) X dX7_isomers_86 rfl ?_
          refine sf_istore (i := 4) (lv' := [(4, .int (1 : Int32)), (0, .ref (q 0)), (1, .int u0), (2, .int u1), (3, .int u2)]) X dX7_isomers_90 (by decide) rfl rfl ?_
          refine sf_iload_n (i := 1) (j := 2) X dX7_isomers_92 rfl rfl rfl ?_
          refine sf_iload (i := 4) (j := 0) X dX7_isomers_93 rfl rfl ?_
          refine sf_if_eq (tgt := 102) X dX7_isomers_95 rfl rfl (fun c47 => ?_) (fun c47 => ?_)
          · have h := sf_ift c47 h
            refine sf_iconst (v := 0) X dX7_isomers_102 sf_ic_0 rfl ?_
            refine sf_iadd X dX7_isomers_103 rfl ?_
            refine sf_top (fun y48 hy48 => ?_)
            have h := h y48 hy48
            refine sf_istore_n (i := 1) (lv' := [(1, .int y48), (4, .int (1 : Int32)), (0, .ref (q 0)), (2, .int u1), (3, .int u2)]) X dX7_isomers_104 rfl (by decide) rfl rfl ?_
            refine sf_iload (i := 4) (j := 1) X dX7_isomers_105 rfl rfl ?_
            refine sf_if_eq (tgt := 121) X dX7_isomers_107 rfl rfl (fun c49 => ?_) (fun c49 => ?_)
            · have h := sf_ift c49 h
              refine sf_iload_n (i := 2) (j := 3) X dX7_isomers_121 rfl rfl rfl ?_
              refine sf_istore_n (i := 2) (lv' := [(2, .int u1), (1, .int y48), (4, .int (1 : Int32)), (0, .ref (q 0)), (3, .int u2)]) X dX7_isomers_122 rfl (by decide) rfl rfl ?_
              refine sf_iinc (i := 3) (j := 4) (d := 1) (lv' := fun y50 => [(3, .int y50), (2, .int u1), (1, .int y48), (4, .int (1 : Int32)), (0, .ref (q 0))]) X dX7_isomers_123 rfl sf_ic_1 (by decide) (fun _ => rfl) rfl (fun y50 hy50 => ?_)
              have h := h y50 hy50
              refine sf_goto (tgt := 69) X dX7_isomers_126 rfl ?_
              refine sf_loc (lv' := [(0, .ref (q 0)), (1, .int y48), (2, .int u1), (3, .int y50)]) [4, 2, 1, 0] rfl ?_
              exact h
            · have h := sf_iff c49 h
              refine sf_iload_n (i := 2) (j := 3) X dX7_isomers_110 rfl rfl rfl ?_
              refine sf_iconst (v := 1) X dX7_isomers_111 sf_ic_1 rfl ?_
              refine sf_bipush (v := 7) X dX7_isomers_112 sf_bc_7 rfl ?_
              refine sf_iload_n (i := 3) (j := 4) X dX7_isomers_114 rfl rfl rfl ?_
              refine sf_iadd X dX7_isomers_115 rfl ?_
              refine sf_ishl X dX7_isomers_116 rfl ?_
              refine sf_ior X dX7_isomers_117 rfl ?_
              refine sf_goto (tgt := 122) X dX7_isomers_118 rfl ?_
              refine sf_top (fun y51 hy51 => ?_)
              have h := h y51 hy51
              refine sf_istore_n (i := 2) (lv' := [(2, .int y51), (1, .int y48), (4, .int (1 : Int32)), (0, .ref (q 0)), (3, .int u2)]) X dX7_isomers_122 rfl (by decide) rfl rfl ?_
              refine sf_iinc (i := 3) (j := 4) (d := 1) (lv' := fun y52 => [(3, .int y52), (2, .int y51), (1, .int y48), (4, .int (1 : Int32)), (0, .ref (q 0))]) X dX7_isomers_123 rfl sf_ic_1 (by decide) (fun _ => rfl) rfl (fun y52 hy52 => ?_)
              have h := h y52 hy52
              refine sf_goto (tgt := 69) X dX7_isomers_126 rfl ?_
              refine sf_loc (lv' := [(0, .ref (q 0)), (1, .int y48), (2, .int y51), (3, .int y52)]) [4, 2, 1, 0] rfl ?_
              exact h
          · have h := sf_iff c47 h
            refine sf_iconst (v := 1) X dX7_isomers_98 sf_ic_1 rfl ?_
            refine sf_goto (tgt := 103) X dX7_isomers_99 rfl ?_
            refine sf_iadd X dX7_isomers_103 rfl ?_
            refine sf_top (fun y53 hy53 => ?_)
            have h := h y53 hy53
            refine sf_istore_n (i := 1) (lv' := [(1, .int y53), (4, .int (1 : Int32)), (0, .ref (q 0)), (2, .int u1), (3, .int u2)]) X dX7_isomers_104 rfl (by decide) rfl rfl ?_
            refine sf_iload (i := 4) (j := 1) X dX7_isomers_105 rfl rfl ?_
            refine sf_if_eq (tgt := 121) X dX7_isomers_107 rfl rfl (fun c54 => ?_) (fun c54 => ?_)
            · have h := sf_ift c54 h
              refine sf_iload_n (i := 2) (j := 3) X dX7_isomers_121 rfl rfl rfl ?_
              refine sf_istore_n (i := 2) (lv' := [(2, .int u1), (1, .int y53), (4, .int (1 : Int32)), (0, .ref (q 0)), (3, .int u2)]) X dX7_isomers_122 rfl (by decide) rfl rfl ?_
              refine sf_iinc (i := 3) (j := 4) (d := 1) (lv' := fun y55 => [(3, .int y55), (2, .int u1), (1, .int y53), (4, .int (1 : Int32)), (0, .ref (q 0))]) X dX7_isomers_123 rfl sf_ic_1 (by decide) (fun _ => rfl) rfl (fun y55 hy55 => ?_)
              have h := h y55 hy55
              refine sf_goto (tgt := 69) X dX7_isomers_126 rfl ?_
              refine sf_loc (lv' := [(0, .ref (q 0)), (1, .int y53), (2, .int u1), (3, .int y55)]) [4, 2, 1, 0] rfl ?_
              exact h
            · have h := sf_iff c54 h
              refine sf_iload_n (i := 2) (j := 3) X dX7_isomers_110 rfl rfl rfl ?_
              refine sf_iconst (v := 1) X dX7_isomers_111 sf_ic_1 rfl ?_
              refine sf_bipush (v := 7) X dX7_isomers_112 sf_bc_7 rfl ?_
              refine sf_iload_n (i := 3) (j := 4) X dX7_isomers_114 rfl rfl rfl ?_
              refine sf_iadd X dX7_isomers_115 rfl ?_
              refine sf_ishl X dX7_isomers_116 rfl ?_
              refine sf_ior X dX7_isomers_117 rfl ?_
              refine sf_goto (tgt := 122) X dX7_isomers_118 rfl ?_
              refine sf_top (fun y56 hy56 => ?_)
              have h := h y56 hy56
              refine sf_istore_n (i := 2) (lv' := [(2, .int y56), (1, .int y53), (4, .int (1 : Int32)), (0, .ref (q 0)), (3, .int u2)]) X dX7_isomers_122 rfl (by decide) rfl rfl ?_
              refine sf_iinc (i := 3) (j := 4) (d := 1) (lv' := fun y57 => [(3, .int y57), (2, .int y56), (1, .int y53), (4, .int (1 : Int32)), (0, .ref (q 0))]) X dX7_isomers_123 rfl sf_ic_1 (by decide) (fun _ => rfl) rfl (fun y57 hy57 => ?_)
              have h := h y57 hy57
              refine sf_goto (tgt := 69) X dX7_isomers_126 rfl ?_
              refine sf_loc (lv' := [(0, .ref (q 0)), (1, .int y53), (2, .int y56), (3, .int y57)]) [4, 2, 1, 0] rfl ?_
              exact h
  | 3, h =>
      replace h := fe_R_X7_isomers_3 h
      unfold tr_R_X7_isomers_3 at h
      show sf_G p l e (headSpec wsX7_isomers ({ frames := 6, cells := 0, slots := 0, locals := 147 })).room s m args below meth c (sf_Qi D vwCl q dA KM sf_EM below args s r τ) 9 D vwCl q dA KM σ 144 [(0, .ref (q 0)), (1, .int u0), (2, .int u1), (3, .int u2), (4, .int u3), (5, .int u4)] []
      refine sf_iload (i := 5) (j := 5) X dX7_isomers_144 rfl rfl ?_
      refine sf_if_eq (tgt := 238) X dX7_isomers_146 rfl rfl (fun c58 => ?_) (fun c58 => ?_)
      · have h := sf_ift c58 h
        refine sf_iload_n (i := 3) (j := 3) X dX7_isomers_238 rfl rfl rfl ?_
        exact sf_reti X h dX7_isomers_239
      · have h := sf_iff c58 h
        refine sf_aload_n (i := 0) (j := 0) X dX7_isomers_149 rfl rfl rfl ?_
        refine sf_iload (i := 4) (j := 4) X dX7_isomers_150 rfl rfl ?_
        obtain ⟨r61, τ60, hR59, h⟩ := h
        refine sf_callVi (As := [.int u3]) (rest := []) (cv := (RX7, TX7, 23)) X rfl rfl (c_X7_leastSenses hq hR59) (cwV 1 X.1.2.2.2.2 (sf_gV tw_831 tw_833 tw_34 tw_48 tw_834) rfl rfl rfl ⟨rfl, hd_X7_leastSenses⟩ ⟨Nat.le_of_ble_eq_true rfl, Nat.le_of_ble_eq_true rfl⟩) rfl rfl (Nat.le_of_ble_eq_true rfl) dX7_isomers_152 rfl ?_
        refine sf_istore (i := 6) (lv' := [(6, .int r61), (0, .ref (q 0)), (1, .int u0), (2, .int u1), (3, .int u2), (4, .int u3), (5, .int u4)]) X dX7_isomers_155 (by decide) rfl rfl ?_
        refine sf_iconst (v := 0) X dX7_isomers_157 sf_ic_0 rfl ?_
        refine sf_istore (i := 7) (lv' := [(7, .int (0 : Int32)), (6, .int r61), (0, .ref (q 0)), (1, .int u0), (2, .int u1), (3, .int u2), (4, .int u3), (5, .int u4)]) X dX7_isomers_158 (by decide) rfl rfl ?_
        refine sf_iconst (v := 0) X dX7_isomers_160 sf_ic_0 rfl ?_
        refine sf_istore (i := 8) (lv' := [(8, .int (0 : Int32)), (7, .int (0 : Int32)), (6, .int r61), (0, .ref (q 0)), (1, .int u0), (2, .int u1), (3, .int u2), (4, .int u3), (5, .int u4)]) X dX7_isomers_161 (by decide) rfl rfl ?_
        refine sf_loc (lv' := [(0, .ref (q 0)), (1, .int u0), (2, .int u1), (3, .int u2), (4, .int u3), (5, .int u4), (6, .int r61), (7, .int (0 : Int32)), (8, .int (0 : Int32))]) [3, 4, 5, 6, 7, 8, 2, 1, 0] rfl ?_
        exact h
  | 4, h =>
      replace h := fe_R_X7_isomers_4 h
      unfold tr_R_X7_isomers_4 at h
      show sf_G p l e (headSpec wsX7_isomers ({ frames := 6, cells := 0, slots := 0, locals := 147 })).room s m args below meth c (sf_Qi D vwCl q dA KM sf_EM below args s r τ) 9 D vwCl q dA KM σ 163 [(0, .ref (q 0)), (1, .int u0), (2, .int u1), (3, .int u2), (4, .int u3), (5, .int u4), (6, .int u5), (7, .int u6), (8, .int u7)] []
      refine sf_iload (i := 8) (j := 8) X dX7_isomers_163 rfl rfl ?_
      refine sf_iload_n (i := 3) (j := 3) X dX7_isomers_165 rfl rfl rfl ?_
      refine sf_icmp_ge (tgt := 199) X dX7_isomers_166 rfl rfl (fun c62 => ?_) (fun c62 => ?_)
      · have h := sf_ift c62 h
        refine sf_iload (i := 7) (j := 7) X dX7_isomers_199 rfl rfl ?_
        refine sf_if_ne (tgt := 215) X dX7_isomers_201 rfl rfl (fun c63 => ?_) (fun c63 => ?_)
        · have h := sf_iff c63 h
          refine sf_iload (i := 4) (j := 4) X dX7_isomers_215 rfl rfl ?_
          refine sf_if_eq (tgt := 224) X dX7_isomers_217 rfl rfl (fun c64 => ?_) (fun c64 => ?_)
          · have h := sf_ift c64 h
            refine sf_iconst (v := 0) X dX7_isomers_224 sf_ic_0 rfl ?_
            refine sf_istore (i := 5) (lv' := [(5, .int (0 : Int32)), (0, .ref (q 0)), (1, .int u0), (2, .int u1), (3, .int u2), (4, .int u3), (6, .int u5), (7, .int u6), (8, .int u7)]) X dX7_isomers_225 (by decide) rfl rfl ?_
            refine sf_iload (i := 4) (j := 5) X dX7_isomers_227 rfl rfl ?_
            refine sf_iconst (v := 1) X dX7_isomers_229 sf_ic_1 rfl ?_
            refine sf_isub X dX7_isomers_230 rfl ?_
            refine sf_iload_n (i := 2) (j := 3) X dX7_isomers_231 rfl rfl rfl ?_
            refine sf_iand X dX7_isomers_232 rfl ?_
            refine sf_top (fun y65 hy65 => ?_)
            have h := h y65 hy65
            refine sf_istore (i := 4) (lv' := [(4, .int y65), (5, .int (0 : Int32)), (0, .ref (q 0)), (1, .int u0), (2, .int u1), (3, .int u2), (6, .int u5), (7, .int u6), (8, .int u7)]) X dX7_isomers_233 (by decide) rfl rfl ?_
            refine sf_goto (tgt := 144) X dX7_isomers_235 rfl ?_
            refine sf_loc (lv' := [(0, .ref (q 0)), (1, .int u0), (2, .int u1), (3, .int u2), (4, .int y65), (5, .int (0 : Int32))]) [2, 3, 4, 5, 0, 1] rfl ?_
            exact h
          · have h := sf_iff c64 h
            refine sf_iconst (v := 1) X dX7_isomers_220 sf_ic_1 rfl ?_
            refine sf_goto (tgt := 225) X dX7_isomers_221 rfl ?_
            refine sf_istore (i := 5) (lv' := [(5, .int (1 : Int32)), (0, .ref (q 0)), (1, .int u0), (2, .int u1), (3, .int u2), (4, .int u3), (6, .int u5), (7, .int u6), (8, .int u7)]) X dX7_isomers_225 (by decide) rfl rfl ?_
            refine sf_iload (i := 4) (j := 5) X dX7_isomers_227 rfl rfl ?_
            refine sf_iconst (v := 1) X dX7_isomers_229 sf_ic_1 rfl ?_
            refine sf_isub X dX7_isomers_230 rfl ?_
            refine sf_iload_n (i := 2) (j := 3) X dX7_isomers_231 rfl rfl rfl ?_
            refine sf_iand X dX7_isomers_232 rfl ?_
            refine sf_top (fun y66 hy66 => ?_)
            have h := h y66 hy66
            refine sf_istore (i := 4) (lv' := [(4, .int y66), (5, .int (1 : Int32)), (0, .ref (q 0)), (1, .int u0), (2, .int u1), (3, .int u2), (6, .int u5), (7, .int u6), (8, .int u7)]) X dX7_isomers_233 (by decide) rfl rfl ?_
            refine sf_goto (tgt := 144) X dX7_isomers_235 rfl ?_
            refine sf_loc (lv' := [(0, .ref (q 0)), (1, .int u0), (2, .int u1), (3, .int u2), (4, .int y66), (5, .int (1 : Int32))]) [2, 3, 4, 5, 0, 1] rfl ?_
            exact h
        · have h := sf_ift c63 h
          refine sf_aload_n (i := 0) (j := 0) X dX7_isomers_204 rfl rfl rfl ?_
          refine sf_getR (C := RX7) (T := TX7) (N := 23) (ci := 7) (j := 22) (k' := 15) X (fun w h => sf_memc (inX7 w h)) rfl rfl (by decide) (X.1.2.2.2.2 _ (sf_memc tw_653)) (fun _ h9 => h9) rfl dX7_isomers_205 rfl ?_
          refine sf_iload_n (i := 3) (j := 3) X dX7_isomers_208 rfl rfl rfl ?_
          refine sf_iload (i := 6) (j := 6) X dX7_isomers_209 rfl rfl ?_
          obtain ⟨b67, h⟩ := h
          refine sf_iast X rfl b67 dX7_isomers_211 rfl (fun τ68 hτ68 => ?_)
          have h := h τ68 hτ68
          refine sf_iinc (i := 3) (j := 3) (d := 1) (lv' := fun y69 => [(3, .int y69), (0, .ref (q 0)), (1, .int u0), (2, .int u1), (4, .int u3), (5, .int u4), (6, .int u5), (7, .int u6), (8, .int u7)]) X dX7_isomers_212 rfl sf_ic_1 (by decide) (fun _ => rfl) rfl (fun y69 hy69 => ?_)
          have h := h y69 hy69
          refine sf_iload (i := 4) (j := 4) X dX7_isomers_215 rfl rfl ?_
          refine sf_if_eq (tgt := 224) X dX7_isomers_217 rfl rfl (fun c70 => ?_) (fun c70 => ?_)
          · have h := sf_ift c70 h
            refine sf_iconst (v := 0) X dX7_isomers_224 sf_ic_0 rfl ?_
            refine sf_istore (i := 5) (lv' := [(5, .int (0 : Int32)), (3, .int y69), (0, .ref (q 0)), (1, .int u0), (2, .int u1), (4, .int u3), (6, .int u5), (7, .int u6), (8, .int u7)]) X dX7_isomers_225 (by decide) rfl rfl ?_
            refine sf_iload (i := 4) (j := 5) X dX7_isomers_227 rfl rfl ?_
            refine sf_iconst (v := 1) X dX7_isomers_229 sf_ic_1 rfl ?_
            refine sf_isub X dX7_isomers_230 rfl ?_
            refine sf_iload_n (i := 2) (j := 4) X dX7_isomers_231 rfl rfl rfl ?_
            refine sf_iand X dX7_isomers_232 rfl ?_
            refine sf_top (fun y71 hy71 => ?_)
            have h := h y71 hy71
            refine sf_istore (i := 4) (lv' := [(4, .int y71), (5, .int (0 : Int32)), (3, .int y69), (0, .ref (q 0)), (1, .int u0), (2, .int u1), (6, .int u5), (7, .int u6), (8, .int u7)]) X dX7_isomers_233 (by decide) rfl rfl ?_
            refine sf_goto (tgt := 144) X dX7_isomers_235 rfl ?_
            refine sf_loc (lv' := [(0, .ref (q 0)), (1, .int u0), (2, .int u1), (3, .int y69), (4, .int y71), (5, .int (0 : Int32))]) [3, 4, 5, 2, 0, 1] rfl ?_
            exact h
          · have h := sf_iff c70 h
            refine sf_iconst (v := 1) X dX7_isomers_220 sf_ic_1 rfl ?_
            refine sf_goto (tgt := 225) X dX7_isomers_221 rfl ?_
            refine sf_istore (i := 5) (lv' := [(5, .int (1 : Int32)), (3, .int y69), (0, .ref (q 0)), (1, .int u0), (2, .int u1), (4, .int u3), (6, .int u5), (7, .int u6), (8, .int u7)]) X dX7_isomers_225 (by decide) rfl rfl ?_
            refine sf_iload (i := 4) (j := 5) X dX7_isomers_227 rfl rfl ?_
            refine sf_iconst (v := 1) X dX7_isomers_229 sf_ic_1 rfl ?_
            refine sf_isub X dX7_isomers_230 rfl ?_
            refine sf_iload_n (i := 2) (j := 4) X dX7_isomers_231 rfl rfl rfl ?_
            refine sf_iand X dX7_isomers_232 rfl ?_
            refine sf_top (fun y72 hy72 => ?_)
            have h := h y72 hy72
            refine sf_istore (i := 4) (lv' := [(4, .int y72), (5, .int (1 : Int32)), (3, .int y69), (0, .ref (q 0)), (1, .int u0), (2, .int u1), (6, .int u5), (7, .int u6), (8, .int u7)]) X dX7_isomers_233 (by decide) rfl rfl ?_
            refine sf_goto (tgt := 144) X dX7_isomers_235 rfl ?_
            refine sf_loc (lv' := [(0, .ref (q 0)), (1, .int u0), (2, .int u1), (3, .int y69), (4, .int y72), (5, .int (1 : Int32))]) [3, 4, 5, 2, 0, 1] rfl ?_
            exact h
      · have h := sf_iff c62 h
        refine sf_iload (i := 7) (j := 7) X dX7_isomers_169 rfl rfl ?_
        refine sf_if_ne (tgt := 186) X dX7_isomers_171 rfl rfl (fun c73 => ?_) (fun c73 => ?_)
        · have h := sf_iff c73 h
          refine sf_iconst (v := 1) X dX7_isomers_186 sf_ic_1 rfl ?_
          refine sf_goto (tgt := 191) X dX7_isomers_187 rfl ?_
          refine sf_istore (i := 7) (lv' := [(7, .int (1 : Int32)), (0, .ref (q 0)), (1, .int u0), (2, .int u1), (3, .int u2), (4, .int u3), (5, .int u4), (6, .int u5), (8, .int u7)]) X dX7_isomers_191 (by decide) rfl rfl ?_
          refine sf_iinc (i := 8) (j := 8) (d := 1) (lv' := fun y74 => [(8, .int y74), (7, .int (1 : Int32)), (0, .ref (q 0)), (1, .int u0), (2, .int u1), (3, .int u2), (4, .int u3), (5, .int u4), (6, .int u5)]) X dX7_isomers_193 rfl sf_ic_1 (by decide) (fun _ => rfl) rfl (fun y74 hy74 => ?_)
          have h := h y74 hy74
          refine sf_goto (tgt := 163) X dX7_isomers_196 rfl ?_
          refine sf_loc (lv' := [(0, .ref (q 0)), (1, .int u0), (2, .int u1), (3, .int u2), (4, .int u3), (5, .int u4), (6, .int u5), (7, .int (1 : Int32)), (8, .int y74)]) [2, 3, 4, 5, 6, 7, 8, 1, 0] rfl ?_
          exact h
        · have h := sf_ift c73 h
          refine sf_aload_n (i := 0) (j := 0) X dX7_isomers_174 rfl rfl rfl ?_
          refine sf_getR (C := RX7) (T := TX7) (N := 23) (ci := 7) (j := 22) (k' := 15) X (fun w h => sf_memc (inX7 w h)) rfl rfl (by decide) (X.1.2.2.2.2 _ (sf_memc tw_653)) (fun _ h9 => h9) rfl dX7_isomers_175 rfl ?_
          refine sf_iload (i := 8) (j := 8) X dX7_isomers_178 rfl rfl ?_
          obtain ⟨b75, h⟩ := h
          refine sf_iald X rfl b75 dX7_isomers_180 rfl ?_
          refine sf_iload (i := 6) (j := 6) X dX7_isomers_181 rfl rfl ?_
          refine sf_icmp_ne (tgt := 190) X dX7_isomers_183 rfl rfl (fun c76 => ?_) (fun c76 => ?_)
          · have h := sf_iff c76 h
            refine sf_iconst (v := 0) X dX7_isomers_190 sf_ic_0 rfl ?_
            refine sf_istore (i := 7) (lv' := [(7, .int (0 : Int32)), (0, .ref (q 0)), (1, .int u0), (2, .int u1), (3, .int u2), (4, .int u3), (5, .int u4), (6, .int u5), (8, .int u7)]) X dX7_isomers_191 (by decide) rfl rfl ?_
            refine sf_iinc (i := 8) (j := 8) (d := 1) (lv' := fun y77 => [(8, .int y77), (7, .int (0 : Int32)), (0, .ref (q 0)), (1, .int u0), (2, .int u1), (3, .int u2), (4, .int u3), (5, .int u4), (6, .int u5)]) X dX7_isomers_193 rfl sf_ic_1 (by decide) (fun _ => rfl) rfl (fun y77 hy77 => ?_)
            have h := h y77 hy77
            refine sf_goto (tgt := 163) X dX7_isomers_196 rfl ?_
            refine sf_loc (lv' := [(0, .ref (q 0)), (1, .int u0), (2, .int u1), (3, .int u2), (4, .int u3), (5, .int u4), (6, .int u5), (7, .int (0 : Int32)), (8, .int y77)]) [2, 3, 4, 5, 6, 7, 8, 1, 0] rfl ?_
            exact h
          · have h := sf_ift c76 h
            refine sf_iconst (v := 1) X dX7_isomers_186 sf_ic_1 rfl ?_
            refine sf_goto (tgt := 191) X dX7_isomers_187 rfl ?_
            refine sf_istore (i := 7) (lv' := [(7, .int (1 : Int32)), (0, .ref (q 0)), (1, .int u0), (2, .int u1), (3, .int u2), (4, .int u3), (5, .int u4), (6, .int u5), (8, .int u7)]) X dX7_isomers_191 (by decide) rfl rfl ?_
            refine sf_iinc (i := 8) (j := 8) (d := 1) (lv' := fun y78 => [(8, .int y78), (7, .int (1 : Int32)), (0, .ref (q 0)), (1, .int u0), (2, .int u1), (3, .int u2), (4, .int u3), (5, .int u4), (6, .int u5)]) X dX7_isomers_193 rfl sf_ic_1 (by decide) (fun _ => rfl) rfl (fun y78 hy78 => ?_)
            have h := h y78 hy78
            refine sf_goto (tgt := 163) X dX7_isomers_196 rfl ?_
            refine sf_loc (lv' := [(0, .ref (q 0)), (1, .int u0), (2, .int u1), (3, .int u2), (4, .int u3), (5, .int u4), (6, .int u5), (7, .int (1 : Int32)), (8, .int y78)]) [2, 3, 4, 5, 6, 7, 8, 1, 0] rfl ?_
            exact h
  | (_ + 5), _ => exact trivial
def tr_R_X7_keep_0 (Pr : Nat → sf_St → Int32 → Prop) (r : Int32) (τ : sf_St) (σ : sf_St) (u0 : Int32) : Prop :=
  ∃ (r3 : Int32) (τ2 : sf_St), R_X7_leastSenses σ (0 : Int32) r3 τ2 ∧ (∀ τ4 : sf_St, τ4 = sf_up τ2 0 18 r3 → (∀ τ5 : sf_St, τ5 = sf_up τ4 0 16 (τ4 0 0) → (∀ τ6 : sf_St, τ6 = sf_up τ5 0 15 (1 : Int32) → (Pr 1 τ6 (0 : Int32)))))
def tr_R_X7_keep_1 (Pr : Nat → sf_St → Int32 → Prop) (r : Int32) (τ : sf_St) (σ : sf_St) (u0 : Int32) : Prop :=
  if (σ 0 0) ≤ u0 then (r = (σ 0 0) ∧ τ = σ) else (vp_in u0 7 ∧ (vp_in u0 7 ∧ (∀ τ10 : sf_St, τ10 = sf_up σ 12 (sf_ix u0) (σ 10 (sf_ix u0)) → (∀ y11 : Int32, y11 = u0 + (1 : Int32) → (Pr 1 τ10 y11)))))
def fn_R_X7_keep (Pr : Nat → sf_St → Int32 → Prop) (r : Int32) (τ : sf_St) (t : Nat) (σ : sf_St) (u0 : Int32) : Prop := match t with
  | 0 => tr_R_X7_keep_0 Pr r τ σ u0
  | 1 => tr_R_X7_keep_1 Pr r τ σ u0
  | _ => False
def Rn_R_X7_keep (t : Nat) (σ : sf_St) (u0 : Int32) (r : Int32) (τ : sf_St) : Prop := ∀ Pr : Nat → sf_St → Int32 → Prop, (∀ (t : Nat) (σ : sf_St) (u0 : Int32), fn_R_X7_keep Pr r τ t σ u0 → Pr t σ u0) → Pr t σ u0
def R_X7_keep (σ : sf_St) (r : Int32) (τ : sf_St) : Prop := Rn_R_X7_keep 0 σ  0 r τ
theorem fe_R_X7_keep_0 {Pr : Nat → sf_St → Int32 → Prop} {r : Int32} {τ σ : sf_St} {u0 : Int32} (h : fn_R_X7_keep Pr r τ 0 σ u0) : tr_R_X7_keep_0 Pr r τ σ u0 := h
theorem mo_R_X7_keep_0 {Pr Pr' : Nat → sf_St → Int32 → Prop} {r : Int32} {τ σ : sf_St} {u0 : Int32} (hP : ∀ (t : Nat) (σ : sf_St) (u0 : Int32), Pr t σ u0 → Pr' t σ u0) (h : tr_R_X7_keep_0 Pr r τ σ u0) : tr_R_X7_keep_0 Pr' r τ σ u0 := by
  unfold tr_R_X7_keep_0 at h ⊢
  refine Exists.imp (fun _ h => Exists.imp (fun _ h => And.imp id (fun h => ?_) h) h) h
  intro τ4 hτ4
  have h := h τ4 hτ4
  intro τ5 hτ5
  have h := h τ5 hτ5
  intro τ6 hτ6
  have h := h τ6 hτ6
  exact hP _ _ _ h
theorem ru_R_X7_keep_0 {r : Int32} {τ σ : sf_St} {u0 : Int32} (h : tr_R_X7_keep_0 (fun t σ u0 => Rn_R_X7_keep t σ u0 r τ) r τ σ u0) : Rn_R_X7_keep 0 σ u0 r τ := fun Pr hP => hP 0 σ u0 (mo_R_X7_keep_0 (fun _ _ _ h => h Pr hP) h)
theorem fe_R_X7_keep_1 {Pr : Nat → sf_St → Int32 → Prop} {r : Int32} {τ σ : sf_St} {u0 : Int32} (h : fn_R_X7_keep Pr r τ 1 σ u0) : tr_R_X7_keep_1 Pr r τ σ u0 := h
theorem mo_R_X7_keep_1 {Pr Pr' : Nat → sf_St → Int32 → Prop} {r : Int32} {τ σ : sf_St} {u0 : Int32} (hP : ∀ (t : Nat) (σ : sf_St) (u0 : Int32), Pr t σ u0 → Pr' t σ u0) (h : tr_R_X7_keep_1 Pr r τ σ u0) : tr_R_X7_keep_1 Pr' r τ σ u0 := by
  unfold tr_R_X7_keep_1 at h ⊢
  refine sf_mif (fun h => ?_) (fun h => ?_) h
  · exact h
  · refine And.imp id (fun h => ?_) h
    refine And.imp id (fun h => ?_) h
    intro τ10 hτ10
    have h := h τ10 hτ10
    intro y11 hy11
    have h := h y11 hy11
    exact hP _ _ _ h
theorem ru_R_X7_keep_1 {r : Int32} {τ σ : sf_St} {u0 : Int32} (h : tr_R_X7_keep_1 (fun t σ u0 => Rn_R_X7_keep t σ u0 r τ) r τ σ u0) : Rn_R_X7_keep 1 σ u0 r τ := fun Pr hP => hP 1 σ u0 (mo_R_X7_keep_1 (fun _ _ _ h => h Pr hP) h)
set_option maxHeartbeats 4000000 in
set_option maxRecDepth 100000 in
theorem c_X7_keep {l : Launch} {D : va_G} {q : Nat → Nat} {dA : Nat → ClassId}  (hq : sf_inj q KM) {σ τ : sf_St} {r : Int32} (h : R_X7_keep σ  r τ) : sf_Mi l yX7_keep wsX7_keep ({ frames := 6, cells := 0, slots := 0, locals := 147 }) D vwCl q dA KM sf_EM [.ref (q 0)] σ r τ := by
  refine sf_meti (cc := cX7_keep) (maxL := 2) (ret := (some .int)) (own := RX7) (by decide +kernel) rfl rfl hq sf_EMk (Nat.le_of_ble_eq_true rfl) ?_
  intro p e s m args below meth c X
  refine sf_loc (lv' := [(0, .ref (q 0))]) [0] rfl ?_
  refine h (fun t σ u0 => match t with
    | 0 => sf_G p l e (headSpec wsX7_keep ({ frames := 6, cells := 0, slots := 0, locals := 147 })).room s m args below meth c (sf_Qi D vwCl q dA KM sf_EM below args s r τ) 2 D vwCl q dA KM σ 0 [(0, .ref (q 0))] []
    | 1 => sf_G p l e (headSpec wsX7_keep ({ frames := 6, cells := 0, slots := 0, locals := 147 })).room s m args below meth c (sf_Qi D vwCl q dA KM sf_EM below args s r τ) 2 D vwCl q dA KM σ 24 [(0, .ref (q 0)), (1, .int u0)] []
    | _ => True) ?_
  intro t σ u0 h
  match t, h with
  | 0, h =>
      replace h := fe_R_X7_keep_0 h
      unfold tr_R_X7_keep_0 at h
      show sf_G p l e (headSpec wsX7_keep ({ frames := 6, cells := 0, slots := 0, locals := 147 })).room s m args below meth c (sf_Qi D vwCl q dA KM sf_EM below args s r τ) 2 D vwCl q dA KM σ 0 [(0, .ref (q 0))] []
      refine sf_aload_n (i := 0) (j := 0) X dX7_keep_0 rfl rfl rfl ?_
      refine sf_aload_n (i := 0) (j := 0) X dX7_keep_1 rfl rfl rfl ?_
      refine sf_iconst (v := 0) X dX7_keep_2 sf_ic_0 rfl ?_
      obtain ⟨r3, τ2, hR1, h⟩ := h
      refine sf_callVi (As := [.int (0 : Int32)]) (rest := [.ref (q 0)]) (cv := (RX7, TX7, 23)) X rfl rfl (c_X7_leastSenses hq hR1) (cwV 1 X.1.2.2.2.2 (sf_gV tw_831 tw_833 tw_34 tw_48 tw_834) rfl rfl rfl ⟨rfl, hd_X7_leastSenses⟩ ⟨Nat.le_of_ble_eq_true rfl, Nat.le_of_ble_eq_true rfl⟩) rfl rfl (Nat.le_of_ble_eq_true rfl) dX7_keep_3 rfl ?_
      refine sf_putI (C := RX7) (T := TX7) (N := 23) (ci := 7) (j := 18) (ty := .int) X (fun w h => sf_memc (inX7 w h)) rfl rfl (by decide) (X.1.2.2.2.2 _ (sf_memc tw_649)) (fun _ h9 => h9) tyX7 tyX7_ok nmX7 rfl (by decide +kernel) rfl rfl rfl dX7_keep_6 rfl (fun τ4 hτ4 => ?_)
      have h := h τ4 hτ4
      refine sf_aload_n (i := 0) (j := 0) X dX7_keep_9 rfl rfl rfl ?_
      refine sf_aload_n (i := 0) (j := 0) X dX7_keep_10 rfl rfl rfl ?_
      refine sf_getI (C := RX7) (T := TX7) (N := 23) (ci := 7) (j := 0) X (fun w h => sf_memc (inX7 w h)) rfl rfl (by decide) (X.1.2.2.2.2 _ (sf_memc tw_631)) (fun _ h9 => h9) rfl dX7_keep_11 rfl ?_
      refine sf_putI (C := RX7) (T := TX7) (N := 23) (ci := 7) (j := 16) (ty := .int) X (fun w h => sf_memc (inX7 w h)) rfl rfl (by decide) (X.1.2.2.2.2 _ (sf_memc tw_647)) (fun _ h9 => h9) tyX7 tyX7_ok nmX7 rfl (by decide +kernel) rfl rfl rfl dX7_keep_14 rfl (fun τ5 hτ5 => ?_)
      have h := h τ5 hτ5
      refine sf_aload_n (i := 0) (j := 0) X dX7_keep_17 rfl rfl rfl ?_
      refine sf_iconst (v := 1) X dX7_keep_18 sf_ic_1 rfl ?_
      refine sf_putI (C := RX7) (T := TX7) (N := 23) (ci := 7) (j := 15) (ty := .boolean) X (fun w h => sf_memc (inX7 w h)) rfl rfl (by decide) (X.1.2.2.2.2 _ (sf_memc tw_646)) (fun _ h9 => h9) tyX7 tyX7_ok nmX7 rfl (by decide +kernel) rfl rfl rfl dX7_keep_19 rfl (fun τ6 hτ6 => ?_)
      have h := h τ6 hτ6
      refine sf_iconst (v := 0) X dX7_keep_22 sf_ic_0 rfl ?_
      refine sf_istore_n (i := 1) (lv' := [(1, .int (0 : Int32)), (0, .ref (q 0))]) X dX7_keep_23 rfl (by decide) rfl rfl ?_
      refine sf_loc (lv' := [(0, .ref (q 0)), (1, .int (0 : Int32))]) [1, 0] rfl ?_
      exact h
  | 1, h =>
      replace h := fe_R_X7_keep_1 h
      unfold tr_R_X7_keep_1 at h
      show sf_G p l e (headSpec wsX7_keep ({ frames := 6, cells := 0, slots := 0, locals := 147 })).room s m args below meth c (sf_Qi D vwCl q dA KM sf_EM below args s r τ) 2 D vwCl q dA KM σ 24 [(0, .ref (q 0)), (1, .int u0)] []
      refine sf_iload_n (i := 1) (j := 1) X dX7_keep_24 rfl rfl rfl ?_
      refine sf_aload_n (i := 0) (j := 0) X dX7_keep_25 rfl rfl rfl ?_
      refine sf_getI (C := RX7) (T := TX7) (N := 23) (ci := 7) (j := 0) X (fun w h => sf_memc (inX7 w h)) rfl rfl (by decide) (X.1.2.2.2.2 _ (sf_memc tw_631)) (fun _ h9 => h9) rfl dX7_keep_26 rfl ?_
      refine sf_icmp_ge (tgt := 50) X dX7_keep_29 rfl rfl (fun c7 => ?_) (fun c7 => ?_)
      · have h := sf_ift c7 h
        refine sf_aload_n (i := 0) (j := 0) X dX7_keep_50 rfl rfl rfl ?_
        refine sf_getI (C := RX7) (T := TX7) (N := 23) (ci := 7) (j := 0) X (fun w h => sf_memc (inX7 w h)) rfl rfl (by decide) (X.1.2.2.2.2 _ (sf_memc tw_631)) (fun _ h9 => h9) rfl dX7_keep_51 rfl ?_
        exact sf_reti X h dX7_keep_54
      · have h := sf_iff c7 h
        refine sf_aload_n (i := 0) (j := 0) X dX7_keep_32 rfl rfl rfl ?_
        refine sf_getR (C := RX7) (T := TX7) (N := 23) (ci := 7) (j := 17) (k' := 12) X (fun w h => sf_memc (inX7 w h)) rfl rfl (by decide) (X.1.2.2.2.2 _ (sf_memc tw_648)) (fun _ h9 => h9) rfl dX7_keep_33 rfl ?_
        refine sf_iload_n (i := 1) (j := 1) X dX7_keep_36 rfl rfl rfl ?_
        refine sf_aload_n (i := 0) (j := 0) X dX7_keep_37 rfl rfl rfl ?_
        refine sf_getR (C := RX7) (T := TX7) (N := 23) (ci := 7) (j := 12) (k' := 10) X (fun w h => sf_memc (inX7 w h)) rfl rfl (by decide) (X.1.2.2.2.2 _ (sf_memc tw_643)) (fun _ h9 => h9) rfl dX7_keep_38 rfl ?_
        refine sf_iload_n (i := 1) (j := 1) X dX7_keep_41 rfl rfl rfl ?_
        obtain ⟨b8, h⟩ := h
        refine sf_iald X rfl b8 dX7_keep_42 rfl ?_
        obtain ⟨b9, h⟩ := h
        refine sf_iast X rfl b9 dX7_keep_43 rfl (fun τ10 hτ10 => ?_)
        have h := h τ10 hτ10
        refine sf_iinc (i := 1) (j := 1) (d := 1) (lv' := fun y11 => [(1, .int y11), (0, .ref (q 0))]) X dX7_keep_44 rfl sf_ic_1 (by decide) (fun _ => rfl) rfl (fun y11 hy11 => ?_)
        have h := h y11 hy11
        refine sf_goto (tgt := 24) X dX7_keep_47 rfl ?_
        refine sf_loc (lv' := [(0, .ref (q 0)), (1, .int y11)]) [1, 0] rfl ?_
        exact h
  | (_ + 2), _ => exact trivial
def tr_R_X7_compare_0 (Pr : Nat → sf_St → Int32 → Int32 → Int32 → Prop) (r : Int32) (τ : sf_St) (σ : sf_St) (u0 u1 u2 : Int32) : Prop :=
  ∃ (r3 : Int32) (τ2 : sf_St), R_X7_leastSenses σ (0 : Int32) r3 τ2 ∧ (if (τ2 0 15) = (0 : Int32) then (Pr 1 τ2 r3 (0 : Int32) (0 : Int32)) else (if (τ2 0 16) = (τ2 0 0) then (Pr 1 τ2 r3 (1 : Int32) (0 : Int32)) else (Pr 1 τ2 r3 (0 : Int32) (0 : Int32))))
def tr_R_X7_compare_1 (Pr : Nat → sf_St → Int32 → Int32 → Int32 → Prop) (r : Int32) (τ : sf_St) (σ : sf_St) (u0 u1 u2 : Int32) : Prop :=
  if (σ 0 0) ≤ u2 then (if u1 = (0 : Int32) then (r = (3 : Int32) ∧ τ = σ) else (if u0 = (σ 0 18) then (r = (0 : Int32) ∧ τ = σ) else (∃ (r11 : Int32) (τ10 : sf_St), R_X7_leastSenses σ (127 : Int32) r11 τ10 ∧ (if r11 = (τ10 0 18) then (r = (2 : Int32) ∧ τ = τ10) else (r = (1 : Int32) ∧ τ = τ10))))) else (if u1 = (0 : Int32) then (if u1 = (0 : Int32) then (r = (3 : Int32) ∧ τ = σ) else (if u0 = (σ 0 18) then (r = (0 : Int32) ∧ τ = σ) else (∃ (r18 : Int32) (τ17 : sf_St), R_X7_leastSenses σ (127 : Int32) r18 τ17 ∧ (if r18 = (τ17 0 18) then (r = (2 : Int32) ∧ τ = τ17) else (r = (1 : Int32) ∧ τ = τ17))))) else (vp_in u2 7 ∧ (vp_in u2 7 ∧ (if (σ 12 (sf_ix u2)) = (σ 10 (sf_ix u2)) then (∀ y24 : Int32, y24 = u2 + (1 : Int32) → (Pr 1 σ u0 (1 : Int32) y24)) else (∀ y23 : Int32, y23 = u2 + (1 : Int32) → (Pr 1 σ u0 (0 : Int32) y23))))))
def fn_R_X7_compare (Pr : Nat → sf_St → Int32 → Int32 → Int32 → Prop) (r : Int32) (τ : sf_St) (t : Nat) (σ : sf_St) (u0 u1 u2 : Int32) : Prop := match t with
  | 0 => tr_R_X7_compare_0 Pr r τ σ u0 u1 u2
  | 1 => tr_R_X7_compare_1 Pr r τ σ u0 u1 u2
  | _ => False
def Rn_R_X7_compare (t : Nat) (σ : sf_St) (u0 u1 u2 : Int32) (r : Int32) (τ : sf_St) : Prop := ∀ Pr : Nat → sf_St → Int32 → Int32 → Int32 → Prop, (∀ (t : Nat) (σ : sf_St) (u0 u1 u2 : Int32), fn_R_X7_compare Pr r τ t σ u0 u1 u2 → Pr t σ u0 u1 u2) → Pr t σ u0 u1 u2
def R_X7_compare (σ : sf_St) (r : Int32) (τ : sf_St) : Prop := Rn_R_X7_compare 0 σ  0 0 0 r τ
theorem fe_R_X7_compare_0 {Pr : Nat → sf_St → Int32 → Int32 → Int32 → Prop} {r : Int32} {τ σ : sf_St} {u0 u1 u2 : Int32} (h : fn_R_X7_compare Pr r τ 0 σ u0 u1 u2) : tr_R_X7_compare_0 Pr r τ σ u0 u1 u2 := h
theorem mo_R_X7_compare_0 {Pr Pr' : Nat → sf_St → Int32 → Int32 → Int32 → Prop} {r : Int32} {τ σ : sf_St} {u0 u1 u2 : Int32} (hP : ∀ (t : Nat) (σ : sf_St) (u0 u1 u2 : Int32), Pr t σ u0 u1 u2 → Pr' t σ u0 u1 u2) (h : tr_R_X7_compare_0 Pr r τ σ u0 u1 u2) : tr_R_X7_compare_0 Pr' r τ σ u0 u1 u2 := by
  unfold tr_R_X7_compare_0 at h ⊢
  refine Exists.imp (fun _ h => Exists.imp (fun _ h => And.imp id (fun h => ?_) h) h) h
  refine sf_mif (fun h => ?_) (fun h => ?_) h
  · exact hP _ _ _ _ _ h
  · refine sf_mif (fun h => ?_) (fun h => ?_) h
    · exact hP _ _ _ _ _ h
    · exact hP _ _ _ _ _ h
theorem ru_R_X7_compare_0 {r : Int32} {τ σ : sf_St} {u0 u1 u2 : Int32} (h : tr_R_X7_compare_0 (fun t σ u0 u1 u2 => Rn_R_X7_compare t σ u0 u1 u2 r τ) r τ σ u0 u1 u2) : Rn_R_X7_compare 0 σ u0 u1 u2 r τ := fun Pr hP => hP 0 σ u0 u1 u2 (mo_R_X7_compare_0 (fun _ _ _ _ _ h => h Pr hP) h)
theorem fe_R_X7_compare_1 {Pr : Nat → sf_St → Int32 → Int32 → Int32 → Prop} {r : Int32} {τ σ : sf_St} {u0 u1 u2 : Int32} (h : fn_R_X7_compare Pr r τ 1 σ u0 u1 u2) : tr_R_X7_compare_1 Pr r τ σ u0 u1 u2 := h
theorem mo_R_X7_compare_1 {Pr Pr' : Nat → sf_St → Int32 → Int32 → Int32 → Prop} {r : Int32} {τ σ : sf_St} {u0 u1 u2 : Int32} (hP : ∀ (t : Nat) (σ : sf_St) (u0 u1 u2 : Int32), Pr t σ u0 u1 u2 → Pr' t σ u0 u1 u2) (h : tr_R_X7_compare_1 Pr r τ σ u0 u1 u2) : tr_R_X7_compare_1 Pr' r τ σ u0 u1 u2 := by
  unfold tr_R_X7_compare_1 at h ⊢
  refine sf_mif (fun h => ?_) (fun h => ?_) h
  · refine sf_mif (fun h => ?_) (fun h => ?_) h
    · exact h
    · refine sf_mif (fun h => ?_) (fun h => ?_) h
      · exact h
      · refine Exists.imp (fun _ h => Exists.imp (fun _ h => And.imp id (fun h => ?_) h) h) h
        refine sf_mif (fun h => ?_) (fun h => ?_) h
        · exact h
        · exact h
  · refine sf_mif (fun h => ?_) (fun h => ?_) h
    · refine sf_mif (fun h => ?_) (fun h => ?_) h
      · exact h
      · refine sf_mif (fun h => ?_) (fun h => ?_) h
        · exact h
        · refine Exists.imp (fun _ h => Exists.imp (fun _ h => And.imp id (fun h => ?_) h) h) h
          refine sf_mif (fun h => ?_) (fun h => ?_) h
          · exact h
          · exact h
    · refine And.imp id (fun h => ?_) h
      refine And.imp id (fun h => ?_) h
      refine sf_mif (fun h => ?_) (fun h => ?_) h
      · intro y24 hy24
        have h := h y24 hy24
        exact hP _ _ _ _ _ h
      · intro y23 hy23
        have h := h y23 hy23
        exact hP _ _ _ _ _ h
theorem ru_R_X7_compare_1 {r : Int32} {τ σ : sf_St} {u0 u1 u2 : Int32} (h : tr_R_X7_compare_1 (fun t σ u0 u1 u2 => Rn_R_X7_compare t σ u0 u1 u2 r τ) r τ σ u0 u1 u2) : Rn_R_X7_compare 1 σ u0 u1 u2 r τ := fun Pr hP => hP 1 σ u0 u1 u2 (mo_R_X7_compare_1 (fun _ _ _ _ _ h => h Pr hP) h)
set_option maxHeartbeats 4000000 in
set_option maxRecDepth 100000 in
theorem c_X7_compare {l : Launch} {D : va_G} {q : Nat → Nat} {dA : Nat → ClassId}  (hq : sf_inj q KM) {σ τ : sf_St} {r : Int32} (h : R_X7_compare σ  r τ) : sf_Mi l yX7_compare wsX7_compare ({ frames := 6, cells := 0, slots := 0, locals := 147 }) D vwCl q dA KM sf_EM [.ref (q 0)] σ r τ := by
  refine sf_meti (cc := cX7_compare) (maxL := 4) (ret := (some .int)) (own := RX7) (by decide +kernel) rfl rfl hq sf_EMk (Nat.le_of_ble_eq_true rfl) ?_
  intro p e s m args below meth c X
  refine sf_loc (lv' := [(0, .ref (q 0))]) [0] rfl ?_
  refine h (fun t σ u0 u1 u2 => match t with
    | 0 => sf_G p l e (headSpec wsX7_compare ({ frames := 6, cells := 0, slots := 0, locals := 147 })).room s m args below meth c (sf_Qi D vwCl q dA KM sf_EM below args s r τ) 4 D vwCl q dA KM σ 0 [(0, .ref (q 0))] []
    | 1 => sf_G p l e (headSpec wsX7_compare ({ frames := 6, cells := 0, slots := 0, locals := 147 })).room s m args below meth c (sf_Qi D vwCl q dA KM sf_EM below args s r τ) 4 D vwCl q dA KM σ 32 [(0, .ref (q 0)), (1, .int u0), (2, .int u1), (3, .int u2)] []
    | _ => True) ?_
  intro t σ u0 u1 u2 h
  match t, h with
  | 0, h =>
      replace h := fe_R_X7_compare_0 h
      unfold tr_R_X7_compare_0 at h
      show sf_G p l e (headSpec wsX7_compare ({ frames := 6, cells := 0, slots := 0, locals := 147 })).room s m args below meth c (sf_Qi D vwCl q dA KM sf_EM below args s r τ) 4 D vwCl q dA KM σ 0 [(0, .ref (q 0))] []
      refine sf_aload_n (i := 0) (j := 0) X dX7_compare_0 rfl rfl rfl ?_
      refine sf_iconst (v := 0) X dX7_compare_1 sf_ic_0 rfl ?_
      obtain ⟨r3, τ2, hR1, h⟩ := h
      refine sf_callVi (As := [.int (0 : Int32)]) (rest := []) (cv := (RX7, TX7, 23)) X rfl rfl (c_X7_leastSenses hq hR1) (cwV 1 X.1.2.2.2.2 (sf_gV tw_831 tw_833 tw_34 tw_48 tw_834) rfl rfl rfl ⟨rfl, hd_X7_leastSenses⟩ ⟨Nat.le_of_ble_eq_true rfl, Nat.le_of_ble_eq_true rfl⟩) rfl rfl (Nat.le_of_ble_eq_true rfl) dX7_compare_2 rfl ?_
      refine sf_istore_n (i := 1) (lv' := [(1, .int r3), (0, .ref (q 0))]) X dX7_compare_5 rfl (by decide) rfl rfl ?_
      refine sf_aload_n (i := 0) (j := 1) X dX7_compare_6 rfl rfl rfl ?_
      refine sf_getI (C := RX7) (T := TX7) (N := 23) (ci := 7) (j := 15) X (fun w h => sf_memc (inX7 w h)) rfl rfl (by decide) (X.1.2.2.2.2 _ (sf_memc tw_646)) (fun _ h9 => h9) rfl dX7_compare_7 rfl ?_
      refine sf_if_eq (tgt := 28) X dX7_compare_10 rfl rfl (fun c4 => ?_) (fun c4 => ?_)
      · have h := sf_ift c4 h
        refine sf_iconst (v := 0) X dX7_compare_28 sf_ic_0 rfl ?_
        refine sf_istore_n (i := 2) (lv' := [(2, .int (0 : Int32)), (1, .int r3), (0, .ref (q 0))]) X dX7_compare_29 rfl (by decide) rfl rfl ?_
        refine sf_iconst (v := 0) X dX7_compare_30 sf_ic_0 rfl ?_
        refine sf_istore_n (i := 3) (lv' := [(3, .int (0 : Int32)), (2, .int (0 : Int32)), (1, .int r3), (0, .ref (q 0))]) X dX7_compare_31 rfl (by decide) rfl rfl ?_
        refine sf_loc (lv' := [(0, .ref (q 0)), (1, .int r3), (2, .int (0 : Int32)), (3, .int (0 : Int32))]) [3, 2, 1, 0] rfl ?_
        exact h
      · have h := sf_iff c4 h
        refine sf_aload_n (i := 0) (j := 1) X dX7_compare_13 rfl rfl rfl ?_
        refine sf_getI (C := RX7) (T := TX7) (N := 23) (ci := 7) (j := 16) X (fun w h => sf_memc (inX7 w h)) rfl rfl (by decide) (X.1.2.2.2.2 _ (sf_memc tw_647)) (fun _ h9 => h9) rfl dX7_compare_14 rfl ?_
        refine sf_aload_n (i := 0) (j := 1) X dX7_compare_17 rfl rfl rfl ?_
        refine sf_getI (C := RX7) (T := TX7) (N := 23) (ci := 7) (j := 0) X (fun w h => sf_memc (inX7 w h)) rfl rfl (by decide) (X.1.2.2.2.2 _ (sf_memc tw_631)) (fun _ h9 => h9) rfl dX7_compare_18 rfl ?_
        refine sf_icmp_ne (tgt := 28) X dX7_compare_21 rfl rfl (fun c5 => ?_) (fun c5 => ?_)
        · have h := sf_iff c5 h
          refine sf_iconst (v := 0) X dX7_compare_28 sf_ic_0 rfl ?_
          refine sf_istore_n (i := 2) (lv' := [(2, .int (0 : Int32)), (1, .int r3), (0, .ref (q 0))]) X dX7_compare_29 rfl (by decide) rfl rfl ?_
          refine sf_iconst (v := 0) X dX7_compare_30 sf_ic_0 rfl ?_
          refine sf_istore_n (i := 3) (lv' := [(3, .int (0 : Int32)), (2, .int (0 : Int32)), (1, .int r3), (0, .ref (q 0))]) X dX7_compare_31 rfl (by decide) rfl rfl ?_
          refine sf_loc (lv' := [(0, .ref (q 0)), (1, .int r3), (2, .int (0 : Int32)), (3, .int (0 : Int32))]) [3, 2, 1, 0] rfl ?_
          exact h
        · have h := sf_ift c5 h
          refine sf_iconst (v := 1) X dX7_compare_24 sf_ic_1 rfl ?_
          refine sf_goto (tgt := 29) X dX7_compare_25 rfl ?_
          refine sf_istore_n (i := 2) (lv' := [(2, .int (1 : Int32)), (1, .int r3), (0, .ref (q 0))]) X dX7_compare_29 rfl (by decide) rfl rfl ?_
          refine sf_iconst (v := 0) X dX7_compare_30 sf_ic_0 rfl ?_
          refine sf_istore_n (i := 3) (lv' := [(3, .int (0 : Int32)), (2, .int (1 : Int32)), (1, .int r3), (0, .ref (q 0))]) X dX7_compare_31 rfl (by decide) rfl rfl ?_
          refine sf_loc (lv' := [(0, .ref (q 0)), (1, .int r3), (2, .int (1 : Int32)), (3, .int (0 : Int32))]) [3, 2, 1, 0] rfl ?_
          exact h
  | 1, h =>
      replace h := fe_R_X7_compare_1 h
      unfold tr_R_X7_compare_1 at h
      show sf_G p l e (headSpec wsX7_compare ({ frames := 6, cells := 0, slots := 0, locals := 147 })).room s m args below meth c (sf_Qi D vwCl q dA KM sf_EM below args s r τ) 4 D vwCl q dA KM σ 32 [(0, .ref (q 0)), (1, .int u0), (2, .int u1), (3, .int u2)] []
      refine sf_iload_n (i := 3) (j := 3) X dX7_compare_32 rfl rfl rfl ?_
      refine sf_aload_n (i := 0) (j := 0) X dX7_compare_33 rfl rfl rfl ?_
      refine sf_getI (C := RX7) (T := TX7) (N := 23) (ci := 7) (j := 0) X (fun w h => sf_memc (inX7 w h)) rfl rfl (by decide) (X.1.2.2.2.2 _ (sf_memc tw_631)) (fun _ h9 => h9) rfl dX7_compare_34 rfl ?_
      refine sf_icmp_ge (tgt := 71) X dX7_compare_37 rfl rfl (fun c6 => ?_) (fun c6 => ?_)
      · have h := sf_ift c6 h
        refine sf_iload_n (i := 2) (j := 2) X dX7_compare_71 rfl rfl rfl ?_
        refine sf_if_ne (tgt := 79) X dX7_compare_72 rfl rfl (fun c7 => ?_) (fun c7 => ?_)
        · have h := sf_iff c7 h
          refine sf_iload_n (i := 1) (j := 1) X dX7_compare_79 rfl rfl rfl ?_
          refine sf_aload_n (i := 0) (j := 0) X dX7_compare_80 rfl rfl rfl ?_
          refine sf_getI (C := RX7) (T := TX7) (N := 23) (ci := 7) (j := 18) X (fun w h => sf_memc (inX7 w h)) rfl rfl (by decide) (X.1.2.2.2.2 _ (sf_memc tw_649)) (fun _ h9 => h9) rfl dX7_compare_81 rfl ?_
          refine sf_icmp_ne (tgt := 91) X dX7_compare_84 rfl rfl (fun c8 => ?_) (fun c8 => ?_)
          · have h := sf_iff c8 h
            refine sf_aload_n (i := 0) (j := 0) X dX7_compare_91 rfl rfl rfl ?_
            refine sf_bipush (v := 127) X dX7_compare_92 sf_bc_127 rfl ?_
            obtain ⟨r11, τ10, hR9, h⟩ := h
            refine sf_callVi (As := [.int (127 : Int32)]) (rest := []) (cv := (RX7, TX7, 23)) X rfl rfl (c_X7_leastSenses hq hR9) (cwV 1 X.1.2.2.2.2 (sf_gV tw_831 tw_833 tw_34 tw_48 tw_834) rfl rfl rfl ⟨rfl, hd_X7_leastSenses⟩ ⟨Nat.le_of_ble_eq_true rfl, Nat.le_of_ble_eq_true rfl⟩) rfl rfl (Nat.le_of_ble_eq_true rfl) dX7_compare_94 rfl ?_
            refine sf_aload_n (i := 0) (j := 0) X dX7_compare_97 rfl rfl rfl ?_
            refine sf_getI (C := RX7) (T := TX7) (N := 23) (ci := 7) (j := 18) X (fun w h => sf_memc (inX7 w h)) rfl rfl (by decide) (X.1.2.2.2.2 _ (sf_memc tw_649)) (fun _ h9 => h9) rfl dX7_compare_98 rfl ?_
            refine sf_icmp_ne (tgt := 108) X dX7_compare_101 rfl rfl (fun c12 => ?_) (fun c12 => ?_)
            · have h := sf_iff c12 h
              refine sf_iconst (v := 1) X dX7_compare_108 sf_ic_1 rfl ?_
              exact sf_reti X h dX7_compare_109
            · have h := sf_ift c12 h
              refine sf_iconst (v := 2) X dX7_compare_104 sf_ic_2 rfl ?_
              refine sf_goto (tgt := 109) X dX7_compare_105 rfl ?_
              exact sf_reti X h dX7_compare_109
          · have h := sf_ift c8 h
            refine sf_iconst (v := 0) X dX7_compare_87 sf_ic_0 rfl ?_
            refine sf_goto (tgt := 109) X dX7_compare_88 rfl ?_
            exact sf_reti X h dX7_compare_109
        · have h := sf_ift c7 h
          refine sf_iconst (v := 3) X dX7_compare_75 sf_ic_3 rfl ?_
          refine sf_goto (tgt := 109) X dX7_compare_76 rfl ?_
          exact sf_reti X h dX7_compare_109
      · have h := sf_iff c6 h
        refine sf_iload_n (i := 2) (j := 2) X dX7_compare_40 rfl rfl rfl ?_
        refine sf_if_eq (tgt := 71) X dX7_compare_41 rfl rfl (fun c13 => ?_) (fun c13 => ?_)
        · have h := sf_ift c13 h
          refine sf_iload_n (i := 2) (j := 2) X dX7_compare_71 rfl rfl rfl ?_
          refine sf_if_ne (tgt := 79) X dX7_compare_72 rfl rfl (fun c14 => ?_) (fun c14 => ?_)
          · have h := sf_iff c14 h
            refine sf_iload_n (i := 1) (j := 1) X dX7_compare_79 rfl rfl rfl ?_
            refine sf_aload_n (i := 0) (j := 0) X dX7_compare_80 rfl rfl rfl ?_
            refine sf_getI (C := RX7) (T := TX7) (N := 23) (ci := 7) (j := 18) X (fun w h => sf_memc (inX7 w h)) rfl rfl (by decide) (X.1.2.2.2.2 _ (sf_memc tw_649)) (fun _ h9 => h9) rfl dX7_compare_81 rfl ?_
            refine sf_icmp_ne (tgt := 91) X dX7_compare_84 rfl rfl (fun c15 => ?_) (fun c15 => ?_)
            · have h := sf_iff c15 h
              refine sf_aload_n (i := 0) (j := 0) X dX7_compare_91 rfl rfl rfl ?_
              refine sf_bipush (v := 127) X dX7_compare_92 sf_bc_127 rfl ?_
              obtain ⟨r18, τ17, hR16, h⟩ := h
              refine sf_callVi (As := [.int (127 : Int32)]) (rest := []) (cv := (RX7, TX7, 23)) X rfl rfl (c_X7_leastSenses hq hR16) (cwV 1 X.1.2.2.2.2 (sf_gV tw_831 tw_833 tw_34 tw_48 tw_834) rfl rfl rfl ⟨rfl, hd_X7_leastSenses⟩ ⟨Nat.le_of_ble_eq_true rfl, Nat.le_of_ble_eq_true rfl⟩) rfl rfl (Nat.le_of_ble_eq_true rfl) dX7_compare_94 rfl ?_
              refine sf_aload_n (i := 0) (j := 0) X dX7_compare_97 rfl rfl rfl ?_
              refine sf_getI (C := RX7) (T := TX7) (N := 23) (ci := 7) (j := 18) X (fun w h => sf_memc (inX7 w h)) rfl rfl (by decide) (X.1.2.2.2.2 _ (sf_memc tw_649)) (fun _ h9 => h9) rfl dX7_compare_98 rfl ?_
              refine sf_icmp_ne (tgt := 108) X dX7_compare_101 rfl rfl (fun c19 => ?_) (fun c19 => ?_)
              · have h := sf_iff c19 h
                refine sf_iconst (v := 1) X dX7_compare_108 sf_ic_1 rfl ?_
                exact sf_reti X h dX7_compare_109
              · have h := sf_ift c19 h
                refine sf_iconst (v := 2) X dX7_compare_104 sf_ic_2 rfl ?_
                refine sf_goto (tgt := 109) X dX7_compare_105 rfl ?_
                exact sf_reti X h dX7_compare_109
            · have h := sf_ift c15 h
              refine sf_iconst (v := 0) X dX7_compare_87 sf_ic_0 rfl ?_
              refine sf_goto (tgt := 109) X dX7_compare_88 rfl ?_
              exact sf_reti X h dX7_compare_109
          · have h := sf_ift c14 h
            refine sf_iconst (v := 3) X dX7_compare_75 sf_ic_3 rfl ?_
            refine sf_goto (tgt := 109) X dX7_compare_76 rfl ?_
            exact sf_reti X h dX7_compare_109
        · have h := sf_iff c13 h
          refine sf_aload_n (i := 0) (j := 0) X dX7_compare_44 rfl rfl rfl ?_
          refine sf_getR (C := RX7) (T := TX7) (N := 23) (ci := 7) (j := 17) (k' := 12) X (fun w h => sf_memc (inX7 w h)) rfl rfl (by decide) (X.1.2.2.2.2 _ (sf_memc tw_648)) (fun _ h9 => h9) rfl dX7_compare_45 rfl ?_
          refine sf_iload_n (i := 3) (j := 3) X dX7_compare_48 rfl rfl rfl ?_
          obtain ⟨b20, h⟩ := h
          refine sf_iald X rfl b20 dX7_compare_49 rfl ?_
          refine sf_aload_n (i := 0) (j := 0) X dX7_compare_50 rfl rfl rfl ?_
          refine sf_getR (C := RX7) (T := TX7) (N := 23) (ci := 7) (j := 12) (k' := 10) X (fun w h => sf_memc (inX7 w h)) rfl rfl (by decide) (X.1.2.2.2.2 _ (sf_memc tw_643)) (fun _ h9 => h9) rfl dX7_compare_51 rfl ?_
          refine sf_iload_n (i := 3) (j := 3) X dX7_compare_54 rfl rfl rfl ?_
          obtain ⟨b21, h⟩ := h
          refine sf_iald X rfl b21 dX7_compare_55 rfl ?_
          refine sf_icmp_ne (tgt := 63) X dX7_compare_56 rfl rfl (fun c22 => ?_) (fun c22 => ?_)
          · have h := sf_iff c22 h
            refine sf_iconst (v := 0) X dX7_compare_63 sf_ic_0 rfl ?_
            refine sf_istore_n (i := 2) (lv' := [(2, .int (0 : Int32)), (0, .ref (q 0)), (1, .int u0), (3, .int u2)]) X dX7_compare_64 rfl (by decide) rfl rfl ?_
            refine sf_iinc (i := 3) (j := 3) (d := 1) (lv' := fun y23 => [(3, .int y23), (2, .int (0 : Int32)), (0, .ref (q 0)), (1, .int u0)]) X dX7_compare_65 rfl sf_ic_1 (by decide) (fun _ => rfl) rfl (fun y23 hy23 => ?_)
            have h := h y23 hy23
            refine sf_goto (tgt := 32) X dX7_compare_68 rfl ?_
            refine sf_loc (lv' := [(0, .ref (q 0)), (1, .int u0), (2, .int (0 : Int32)), (3, .int y23)]) [2, 3, 1, 0] rfl ?_
            exact h
          · have h := sf_ift c22 h
            refine sf_iconst (v := 1) X dX7_compare_59 sf_ic_1 rfl ?_
            refine sf_goto (tgt := 64) X dX7_compare_60 rfl ?_
            refine sf_istore_n (i := 2) (lv' := [(2, .int (1 : Int32)), (0, .ref (q 0)), (1, .int u0), (3, .int u2)]) X dX7_compare_64 rfl (by decide) rfl rfl ?_
            refine sf_iinc (i := 3) (j := 3) (d := 1) (lv' := fun y24 => [(3, .int y24), (2, .int (1 : Int32)), (0, .ref (q 0)), (1, .int u0)]) X dX7_compare_65 rfl sf_ic_1 (by decide) (fun _ => rfl) rfl (fun y24 hy24 => ?_)
            have h := h y24 hy24
            refine sf_goto (tgt := 32) X dX7_compare_68 rfl ?_
            refine sf_loc (lv' := [(0, .ref (q 0)), (1, .int u0), (2, .int (1 : Int32)), (3, .int y24)]) [2, 3, 1, 0] rfl ?_
            exact h
  | (_ + 2), _ => exact trivial
