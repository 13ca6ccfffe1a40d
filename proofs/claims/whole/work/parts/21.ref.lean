def R_X7_hydrogens (σ : sf_St) (u0 : Int32) (r : Int32) (τ : sf_St) : Prop :=
  ∃ (r3 : Int32) (τ2 : sf_St), R_X7_isAtom σ u0 r3 τ2 ∧ (if r3 = (0 : Int32) then (r = (-1 : Int32) ∧ τ = τ2) else (∃ (r7 : Int32) (τ6 : sf_St), R_X7_left τ2 u0 r7 τ6 ∧ (r = r7 ∧ τ = τ6)))
set_option maxHeartbeats 4000000 in
set_option maxRecDepth 100000 in
theorem c_X7_hydrogens {l : Launch} {D : va_G} {q : Nat → Nat} {dA : Nat → ClassId}  (hq : sf_inj q KM) {σ τ : sf_St} {u0 : Int32} {r : Int32} (h : R_X7_hydrogens σ u0 r τ) : sf_Mi l yX7_hydrogens wsX7_hydrogens ({ frames := 2, cells := 0, slots := 0, locals := 43 }) D vwCl q dA KM sf_EM [.ref (q 0), .int u0] σ r τ := by
  refine sf_meti (cc := cX7_hydrogens) (maxL := 2) (ret := (some .int)) (own := RX7) (by decide +kernel) rfl rfl hq sf_EMk (Nat.le_of_ble_eq_true rfl) ?_
  intro p e s m args below meth c X
  unfold R_X7_hydrogens at h
  refine sf_loc (lv' := [(0, .ref (q 0)), (1, .int u0)]) [0, 1] rfl ?_
  refine sf_aload_n (i := 0) (j := 0) X dX7_hydrogens_0 rfl rfl rfl ?_
  refine sf_iload_n (i := 1) (j := 1) X dX7_hydrogens_1 rfl rfl rfl ?_
  obtain ⟨r3, τ2, hR1, h⟩ := h
  refine sf_callVi (As := [.int u0]) (rest := []) (cv := (RX7, TX7, 23)) X rfl rfl (c_X7_isAtom hq hR1) (cwV 1 X.1.2.2.2.2 (sf_gV tw_712 tw_714 tw_15 tw_48 tw_715) rfl rfl rfl ⟨rfl, hd_X7_isAtom⟩ ⟨Nat.le_of_ble_eq_true rfl, Nat.le_of_ble_eq_true rfl⟩) rfl rfl (Nat.le_of_ble_eq_true rfl) dX7_hydrogens_2 rfl ?_
  refine sf_if_eq (tgt := 16) X dX7_hydrogens_5 rfl rfl (fun c4 => ?_) (fun c4 => ?_)
  · have h := sf_ift c4 h
    refine sf_iconst (v := (-1)) X dX7_hydrogens_16 sf_ic_m1 rfl ?_
    exact sf_reti X h dX7_hydrogens_17
  · have h := sf_iff c4 h
    refine sf_aload_n (i := 0) (j := 0) X dX7_hydrogens_8 rfl rfl rfl ?_
    refine sf_iload_n (i := 1) (j := 1) X dX7_hydrogens_9 rfl rfl rfl ?_
    obtain ⟨r7, τ6, hR5, h⟩ := h
    refine sf_callVi (As := [.int u0]) (rest := []) (cv := (RX7, TX7, 23)) X rfl rfl (c_X7_left hq hR5) (cwV 1 X.1.2.2.2.2 (sf_gV tw_720 tw_722 tw_17 tw_48 tw_723) rfl rfl rfl ⟨rfl, hd_X7_left⟩ ⟨Nat.le_of_ble_eq_true rfl, Nat.le_of_ble_eq_true rfl⟩) rfl rfl (Nat.le_of_ble_eq_true rfl) dX7_hydrogens_10 rfl ?_
    refine sf_goto (tgt := 17) X dX7_hydrogens_13 rfl ?_
    exact sf_reti X h dX7_hydrogens_17
def tr_R_X7_ownNumbers_0 (Pr : Nat → sf_St → Int32 → Prop) (τ : sf_St) (σ : sf_St) (u0 : Int32) : Prop :=
  Pr 1 σ (0 : Int32)
def tr_R_X7_ownNumbers_1 (Pr : Nat → sf_St → Int32 → Prop) (τ : sf_St) (σ : sf_St) (u0 : Int32) : Prop :=
  if (σ 0 0) ≤ u0 then (τ = σ) else (vp_in u0 7 ∧ (∀ τ3 : sf_St, τ3 = sf_up σ 8 (sf_ix u0) u0 → (vp_in u0 7 ∧ (∀ τ5 : sf_St, τ5 = sf_up τ3 9 (sf_ix u0) u0 → (∀ y6 : Int32, y6 = u0 + (1 : Int32) → (Pr 1 τ5 y6))))))
def fn_R_X7_ownNumbers (Pr : Nat → sf_St → Int32 → Prop) (τ : sf_St) (t : Nat) (σ : sf_St) (u0 : Int32) : Prop := match t with
  | 0 => tr_R_X7_ownNumbers_0 Pr τ σ u0
  | 1 => tr_R_X7_ownNumbers_1 Pr τ σ u0
  | _ => False
def Rn_R_X7_ownNumbers (t : Nat) (σ : sf_St) (u0 : Int32) (τ : sf_St) : Prop := ∀ Pr : Nat → sf_St → Int32 → Prop, (∀ (t : Nat) (σ : sf_St) (u0 : Int32), fn_R_X7_ownNumbers Pr τ t σ u0 → Pr t σ u0) → Pr t σ u0
def R_X7_ownNumbers (σ : sf_St) (τ : sf_St) : Prop := Rn_R_X7_ownNumbers 0 σ  0 τ
theorem fe_R_X7_ownNumbers_0 {Pr : Nat → sf_St → Int32 → Prop} {τ σ : sf_St} {u0 : Int32} (h : fn_R_X7_ownNumbers Pr τ 0 σ u0) : tr_R_X7_ownNumbers_0 Pr τ σ u0 := h
theorem mo_R_X7_ownNumbers_0 {Pr Pr' : Nat → sf_St → Int32 → Prop} {τ σ : sf_St} {u0 : Int32} (hP : ∀ (t : Nat) (σ : sf_St) (u0 : Int32), Pr t σ u0 → Pr' t σ u0) (h : tr_R_X7_ownNumbers_0 Pr τ σ u0) : tr_R_X7_ownNumbers_0 Pr' τ σ u0 := by
  unfold tr_R_X7_ownNumbers_0 at h ⊢
  exact hP _ _ _ h
theorem ru_R_X7_ownNumbers_0 {τ σ : sf_St} {u0 : Int32} (h : tr_R_X7_ownNumbers_0 (fun t σ u0 => Rn_R_X7_ownNumbers t σ u0 τ) τ σ u0) : Rn_R_X7_ownNumbers 0 σ u0 τ := fun Pr hP => hP 0 σ u0 (mo_R_X7_ownNumbers_0 (fun _ _ _ h => h Pr hP) h)
theorem fe_R_X7_ownNumbers_1 {Pr : Nat → sf_St → Int32 → Prop} {τ σ : sf_St} {u0 : Int32} (h : fn_R_X7_ownNumbers Pr τ 1 σ u0) : tr_R_X7_ownNumbers_1 Pr τ σ u0 := h
theorem mo_R_X7_ownNumbers_1 {Pr Pr' : Nat → sf_St → Int32 → Prop} {τ σ : sf_St} {u0 : Int32} (hP : ∀ (t : Nat) (σ : sf_St) (u0 : Int32), Pr t σ u0 → Pr' t σ u0) (h : tr_R_X7_ownNumbers_1 Pr τ σ u0) : tr_R_X7_ownNumbers_1 Pr' τ σ u0 := by
  unfold tr_R_X7_ownNumbers_1 at h ⊢
  refine sf_mif (fun h => ?_) (fun h => ?_) h
  · exact h
  · refine And.imp id (fun h => ?_) h
    intro τ3 hτ3
    have h := h τ3 hτ3
    refine And.imp id (fun h => ?_) h
    intro τ5 hτ5
    have h := h τ5 hτ5
    intro y6 hy6
    have h := h y6 hy6
    exact hP _ _ _ h
theorem ru_R_X7_ownNumbers_1 {τ σ : sf_St} {u0 : Int32} (h : tr_R_X7_ownNumbers_1 (fun t σ u0 => Rn_R_X7_ownNumbers t σ u0 τ) τ σ u0) : Rn_R_X7_ownNumbers 1 σ u0 τ := fun Pr hP => hP 1 σ u0 (mo_R_X7_ownNumbers_1 (fun _ _ _ h => h Pr hP) h)
set_option maxHeartbeats 4000000 in
set_option maxRecDepth 100000 in
theorem c_X7_ownNumbers {l : Launch} {D : va_G} {q : Nat → Nat} {dA : Nat → ClassId}  (hq : sf_inj q KM) {σ τ : sf_St} (h : R_X7_ownNumbers σ  τ) : sf_Mv l yX7_ownNumbers wsX7_ownNumbers ({ frames := 0, cells := 0, slots := 0, locals := 0 }) D vwCl q dA KM sf_EM [.ref (q 0)] σ τ := by
  refine sf_metv (cc := cX7_ownNumbers) (maxL := 2) (ret := none) (own := RX7) (by decide +kernel) rfl rfl hq sf_EMk (Nat.le_of_ble_eq_true rfl) ?_
  intro p e s m args below meth c X
  refine sf_loc (lv' := [(0, .ref (q 0))]) [0] rfl ?_
  refine h (fun t σ u0 => match t with
    | 0 => sf_G p l e (headSpec wsX7_ownNumbers ({ frames := 0, cells := 0, slots := 0, locals := 0 })).room s m args below meth c (sf_Qv D vwCl q dA KM sf_EM below args s τ) 2 D vwCl q dA KM σ 0 [(0, .ref (q 0))] []
    | 1 => sf_G p l e (headSpec wsX7_ownNumbers ({ frames := 0, cells := 0, slots := 0, locals := 0 })).room s m args below meth c (sf_Qv D vwCl q dA KM sf_EM below args s τ) 2 D vwCl q dA KM σ 2 [(0, .ref (q 0)), (1, .int u0)] []
    | _ => True) ?_
  intro t σ u0 h
  match t, h with
  | 0, h =>
      replace h := fe_R_X7_ownNumbers_0 h
      unfold tr_R_X7_ownNumbers_0 at h
      show sf_G p l e (headSpec wsX7_ownNumbers ({ frames := 0, cells := 0, slots := 0, locals := 0 })).room s m args below meth c (sf_Qv D vwCl q dA KM sf_EM below args s τ) 2 D vwCl q dA KM σ 0 [(0, .ref (q 0))] []
      refine sf_iconst (v := 0) X dX7_ownNumbers_0 sf_ic_0 rfl ?_
      refine sf_istore_n (i := 1) (lv' := [(1, .int (0 : Int32)), (0, .ref (q 0))]) X dX7_ownNumbers_1 rfl (by decide) rfl rfl ?_
      refine sf_loc (lv' := [(0, .ref (q 0)), (1, .int (0 : Int32))]) [1, 0] rfl ?_
      exact h
  | 1, h =>
      replace h := fe_R_X7_ownNumbers_1 h
      unfold tr_R_X7_ownNumbers_1 at h
      show sf_G p l e (headSpec wsX7_ownNumbers ({ frames := 0, cells := 0, slots := 0, locals := 0 })).room s m args below meth c (sf_Qv D vwCl q dA KM sf_EM below args s τ) 2 D vwCl q dA KM σ 2 [(0, .ref (q 0)), (1, .int u0)] []
      refine sf_iload_n (i := 1) (j := 1) X dX7_ownNumbers_2 rfl rfl rfl ?_
      refine sf_aload_n (i := 0) (j := 0) X dX7_ownNumbers_3 rfl rfl rfl ?_
      refine sf_getI (C := RX7) (T := TX7) (N := 23) (ci := 7) (j := 0) X (fun w h => sf_memc (inX7 w h)) rfl rfl (by decide) (X.1.2.2.2.2 _ (sf_memc tw_631)) (fun _ h9 => h9) rfl dX7_ownNumbers_4 rfl ?_
      refine sf_icmp_ge (tgt := 30) X dX7_ownNumbers_7 rfl rfl (fun c1 => ?_) (fun c1 => ?_)
      · have h := sf_ift c1 h
        exact sf_retv X h dX7_ownNumbers_30
      · have h := sf_iff c1 h
        refine sf_aload_n (i := 0) (j := 0) X dX7_ownNumbers_10 rfl rfl rfl ?_
        refine sf_getR (C := RX7) (T := TX7) (N := 23) (ci := 7) (j := 9) (k' := 8) X (fun w h => sf_memc (inX7 w h)) rfl rfl (by decide) (X.1.2.2.2.2 _ (sf_memc tw_640)) (fun _ h9 => h9) rfl dX7_ownNumbers_11 rfl ?_
        refine sf_iload_n (i := 1) (j := 1) X dX7_ownNumbers_14 rfl rfl rfl ?_
        refine sf_iload_n (i := 1) (j := 1) X dX7_ownNumbers_15 rfl rfl rfl ?_
        obtain ⟨b2, h⟩ := h
        refine sf_iast X rfl b2 dX7_ownNumbers_16 rfl (fun τ3 hτ3 => ?_)
        have h := h τ3 hτ3
        refine sf_aload_n (i := 0) (j := 0) X dX7_ownNumbers_17 rfl rfl rfl ?_
        refine sf_getR (C := RX7) (T := TX7) (N := 23) (ci := 7) (j := 10) (k' := 9) X (fun w h => sf_memc (inX7 w h)) rfl rfl (by decide) (X.1.2.2.2.2 _ (sf_memc tw_641)) (fun _ h9 => h9) rfl dX7_ownNumbers_18 rfl ?_
        refine sf_iload_n (i := 1) (j := 1) X dX7_ownNumbers_21 rfl rfl rfl ?_
        refine sf_iload_n (i := 1) (j := 1) X dX7_ownNumbers_22 rfl rfl rfl ?_
        obtain ⟨b4, h⟩ := h
        refine sf_iast X rfl b4 dX7_ownNumbers_23 rfl (fun τ5 hτ5 => ?_)
        have h := h τ5 hτ5
        refine sf_iinc (i := 1) (j := 1) (d := 1) (lv' := fun y6 => [(1, .int y6), (0, .ref (q 0))]) X dX7_ownNumbers_24 rfl sf_ic_1 (by decide) (fun _ => rfl) rfl (fun y6 hy6 => ?_)
        have h := h y6 hy6
        refine sf_goto (tgt := 2) X dX7_ownNumbers_27 rfl ?_
        refine sf_loc (lv' := [(0, .ref (q 0)), (1, .int y6)]) [1, 0] rfl ?_
        exact h
  | (_ + 2), _ => exact trivial
def tr_R_X7_singles_0 (Pr : Nat → sf_St → Int32 → Int32 → Int32 → Int32 → Int32 → Prop) (r : Int32) (τ : sf_St) (σ : sf_St) (u0 u1 u2 u3 u4 : Int32) : Prop :=
  Pr 1 σ u0 u1 (0 : Int32) (1 : Int32) (0 : Int32)
def tr_R_X7_singles_1 (Pr : Nat → sf_St → Int32 → Int32 → Int32 → Int32 → Int32 → Prop) (r : Int32) (τ : sf_St) (σ : sf_St) (u0 u1 u2 u3 u4 : Int32) : Prop :=
  if (σ 0 4) ≤ u4 then (if u3 = (0 : Int32) then (r = (-1 : Int32) ∧ τ = σ) else (r = u2 ∧ τ = σ)) else (if u4 = u1 then (∀ y4 : Int32, y4 = u4 + (1 : Int32) → (Pr 1 σ u0 u1 u2 u3 y4)) else (vp_in u4 9 ∧ (if (σ 4 (sf_ix u4)) = u0 then (∀ y7 : Int32, y7 = u2 + (1 : Int32) → (if u3 = (0 : Int32) then (∀ y9 : Int32, y9 = u4 + (1 : Int32) → (Pr 1 σ u0 u1 y7 (0 : Int32) y9)) else (vp_in u4 9 ∧ (if (σ 6 (sf_ix u4)) = (1 : Int32) then (∀ y13 : Int32, y13 = u4 + (1 : Int32) → (Pr 1 σ u0 u1 y7 (1 : Int32) y13)) else (∀ y12 : Int32, y12 = u4 + (1 : Int32) → (Pr 1 σ u0 u1 y7 (0 : Int32) y12)))))) else (vp_in u4 9 ∧ (if (σ 5 (sf_ix u4)) = u0 then (∀ y17 : Int32, y17 = u2 + (1 : Int32) → (if u3 = (0 : Int32) then (∀ y19 : Int32, y19 = u4 + (1 : Int32) → (Pr 1 σ u0 u1 y17 (0 : Int32) y19)) else (vp_in u4 9 ∧ (if (σ 6 (sf_ix u4)) = (1 : Int32) then (∀ y23 : Int32, y23 = u4 + (1 : Int32) → (Pr 1 σ u0 u1 y17 (1 : Int32) y23)) else (∀ y22 : Int32, y22 = u4 + (1 : Int32) → (Pr 1 σ u0 u1 y17 (0 : Int32) y22)))))) else (∀ y16 : Int32, y16 = u4 + (1 : Int32) → (Pr 1 σ u0 u1 u2 u3 y16)))))))
def fn_R_X7_singles (Pr : Nat → sf_St → Int32 → Int32 → Int32 → Int32 → Int32 → Prop) (r : Int32) (τ : sf_St) (t : Nat) (σ : sf_St) (u0 u1 u2 u3 u4 : Int32) : Prop := match t with
  | 0 => tr_R_X7_singles_0 Pr r τ σ u0 u1 u2 u3 u4
  | 1 => tr_R_X7_singles_1 Pr r τ σ u0 u1 u2 u3 u4
  | _ => False
def Rn_R_X7_singles (t : Nat) (σ : sf_St) (u0 u1 u2 u3 u4 : Int32) (r : Int32) (τ : sf_St) : Prop := ∀ Pr : Nat → sf_St → Int32 → Int32 → Int32 → Int32 → Int32 → Prop, (∀ (t : Nat) (σ : sf_St) (u0 u1 u2 u3 u4 : Int32), fn_R_X7_singles Pr r τ t σ u0 u1 u2 u3 u4 → Pr t σ u0 u1 u2 u3 u4) → Pr t σ u0 u1 u2 u3 u4
def R_X7_singles (σ : sf_St) (u0 u1 : Int32) (r : Int32) (τ : sf_St) : Prop := Rn_R_X7_singles 0 σ u0 u1 0 0 0 r τ
theorem fe_R_X7_singles_0 {Pr : Nat → sf_St → Int32 → Int32 → Int32 → Int32 → Int32 → Prop} {r : Int32} {τ σ : sf_St} {u0 u1 u2 u3 u4 : Int32} (h : fn_R_X7_singles Pr r τ 0 σ u0 u1 u2 u3 u4) : tr_R_X7_singles_0 Pr r τ σ u0 u1 u2 u3 u4 := h
theorem mo_R_X7_singles_0 {Pr Pr' : Nat → sf_St → Int32 → Int32 → Int32 → Int32 → Int32 → Prop} {r : Int32} {τ σ : sf_St} {u0 u1 u2 u3 u4 : Int32} (hP : ∀ (t : Nat) (σ : sf_St) (u0 u1 u2 u3 u4 : Int32), Pr t σ u0 u1 u2 u3 u4 → Pr' t σ u0 u1 u2 u3 u4) (h : tr_R_X7_singles_0 Pr r τ σ u0 u1 u2 u3 u4) : tr_R_X7_singles_0 Pr' r τ σ u0 u1 u2 u3 u4 := by
  unfold tr_R_X7_singles_0 at h ⊢
  exact hP _ _ _ _ _ _ _ h
theorem ru_R_X7_singles_0 {r : Int32} {τ σ : sf_St} {u0 u1 u2 u3 u4 : Int32} (h : tr_R_X7_singles_0 (fun t σ u0 u1 u2 u3 u4 => Rn_R_X7_singles t σ u0 u1 u2 u3 u4 r τ) r τ σ u0 u1 u2 u3 u4) : Rn_R_X7_singles 0 σ u0 u1 u2 u3 u4 r τ := fun Pr hP => hP 0 σ u0 u1 u2 u3 u4 (mo_R_X7_singles_0 (fun _ _ _ _ _ _ _ h => h Pr hP) h)
theorem fe_R_X7_singles_1 {Pr : Nat → sf_St → Int32 → Int32 → Int32 → Int32 → Int32 → Prop} {r : Int32} {τ σ : sf_St} {u0 u1 u2 u3 u4 : Int32} (h : fn_R_X7_singles Pr r τ 1 σ u0 u1 u2 u3 u4) : tr_R_X7_singles_1 Pr r τ σ u0 u1 u2 u3 u4 := h
theorem mo_R_X7_singles_1 {Pr Pr' : Nat → sf_St → Int32 → Int32 → Int32 → Int32 → Int32 → Prop} {r : Int32} {τ σ : sf_St} {u0 u1 u2 u3 u4 : Int32} (hP : ∀ (t : Nat) (σ : sf_St) (u0 u1 u2 u3 u4 : Int32), Pr t σ u0 u1 u2 u3 u4 → Pr' t σ u0 u1 u2 u3 u4) (h : tr_R_X7_singles_1 Pr r τ σ u0 u1 u2 u3 u4) : tr_R_X7_singles_1 Pr' r τ σ u0 u1 u2 u3 u4 := by
  unfold tr_R_X7_singles_1 at h ⊢
  refine sf_mif (fun h => ?_) (fun h => ?_) h
  · refine sf_mif (fun h => ?_) (fun h => ?_) h
    · exact h
    · exact h
  · refine sf_mif (fun h => ?_) (fun h => ?_) h
    · intro y4 hy4
      have h := h y4 hy4
      exact hP _ _ _ _ _ _ _ h
    · refine And.imp id (fun h => ?_) h
      refine sf_mif (fun h => ?_) (fun h => ?_) h
      · intro y7 hy7
        have h := h y7 hy7
        refine sf_mif (fun h => ?_) (fun h => ?_) h
        · intro y9 hy9
          have h := h y9 hy9
          exact hP _ _ _ _ _ _ _ h
        · refine And.imp id (fun h => ?_) h
          refine sf_mif (fun h => ?_) (fun h => ?_) h
          · intro y13 hy13
            have h := h y13 hy13
            exact hP _ _ _ _ _ _ _ h
          · intro y12 hy12
            have h := h y12 hy12
            exact hP _ _ _ _ _ _ _ h
      · refine And.imp id (fun h => ?_) h
        refine sf_mif (fun h => ?_) (fun h => ?_) h
        · intro y17 hy17
          have h := h y17 hy17
          refine sf_mif (fun h => ?_) (fun h => ?_) h
          · intro y19 hy19
            have h := h y19 hy19
            exact hP _ _ _ _ _ _ _ h
          · refine And.imp id (fun h => ?_) h
            refine sf_mif (fun h => ?_) (fun h => ?_) h
            · intro y23 hy23
              have h := h y23 hy23
              exact hP _ _ _ _ _ _ _ h
            · intro y22 hy22
              have h := h y22 hy22
              exact hP _ _ _ _ _ _ _ h
        · intro y16 hy16
          have h := h y16 hy16
          exact hP _ _ _ _ _ _ _ h
theorem ru_R_X7_singles_1 {r : Int32} {τ σ : sf_St} {u0 u1 u2 u3 u4 : Int32} (h : tr_R_X7_singles_1 (fun t σ u0 u1 u2 u3 u4 => Rn_R_X7_singles t σ u0 u1 u2 u3 u4 r τ) r τ σ u0 u1 u2 u3 u4) : Rn_R_X7_singles 1 σ u0 u1 u2 u3 u4 r τ := fun Pr hP => hP 1 σ u0 u1 u2 u3 u4 (mo_R_X7_singles_1 (fun _ _ _ _ _ _ _ h => h Pr hP) h)
set_option maxHeartbeats 4000000 in
set_option maxRecDepth 100000 in
theorem c_X7_singles {l : Launch} {D : va_G} {q : Nat → Nat} {dA : Nat → ClassId}  (hq : sf_inj q KM) {σ τ : sf_St} {u0 u1 : Int32} {r : Int32} (h : R_X7_singles σ u0 u1 r τ) : sf_Mi l yX7_singles wsX7_singles ({ frames := 0, cells := 0, slots := 0, locals := 0 }) D vwCl q dA KM sf_EM [.ref (q 0), .int u0, .int u1] σ r τ := by
  refine sf_meti (cc := cX7_singles) (maxL := 6) (ret := (some .int)) (own := RX7) (by decide +kernel) rfl rfl hq sf_EMk (Nat.le_of_ble_eq_true rfl) ?_
  intro p e s m args below meth c X
  refine sf_loc (lv' := [(0, .ref (q 0)), (1, .int u0), (2, .int u1)]) [0, 1, 2] rfl ?_
  refine h (fun t σ u0 u1 u2 u3 u4 => match t with
    | 0 => sf_G p l e (headSpec wsX7_singles ({ frames := 0, cells := 0, slots := 0, locals := 0 })).room s m args below meth c (sf_Qi D vwCl q dA KM sf_EM below args s r τ) 6 D vwCl q dA KM σ 0 [(0, .ref (q 0)), (1, .int u0), (2, .int u1)] []
    | 1 => sf_G p l e (headSpec wsX7_singles ({ frames := 0, cells := 0, slots := 0, locals := 0 })).room s m args below meth c (sf_Qi D vwCl q dA KM sf_EM below args s r τ) 6 D vwCl q dA KM σ 8 [(0, .ref (q 0)), (1, .int u0), (2, .int u1), (3, .int u2), (4, .int u3), (5, .int u4)] []
    | _ => True) ?_
  intro t σ u0 u1 u2 u3 u4 h
  match t, h with
  | 0, h =>
      replace h := fe_R_X7_singles_0 h
      unfold tr_R_X7_singles_0 at h
      show sf_G p l e (headSpec wsX7_singles ({ frames := 0, cells := 0, slots := 0, locals := 0 })).room s m args below meth c (sf_Qi D vwCl q dA KM sf_EM below args s r τ) 6 D vwCl q dA KM σ 0 [(0, .ref (q 0)), (1, .int u0), (2, .int u1)] []
      refine sf_iconst (v := 0) X dX7_singles_0 sf_ic_0 rfl ?_
      refine sf_istore_n (i := 3) (lv' := [(3, .int (0 : Int32)), (0, .ref (q 0)), (1, .int u0), (2, .int u1)]) X dX7_singles_1 rfl (by decide) rfl rfl ?_
      refine sf_iconst (v := 1) X dX7_singles_2 sf_ic_1 rfl ?_
      refine sf_istore (i := 4) (lv' := [(4, .int (1 : Int32)), (3, .int (0 : Int32)), (0, .ref (q 0)), (1, .int u0), (2, .int u1)]) X dX7_singles_3 (by decide) rfl rfl ?_
      refine sf_iconst (v := 0) X dX7_singles_5 sf_ic_0 rfl ?_
      refine sf_istore (i := 5) (lv' := [(5, .int (0 : Int32)), (4, .int (1 : Int32)), (3, .int (0 : Int32)), (0, .ref (q 0)), (1, .int u0), (2, .int u1)]) X dX7_singles_6 (by decide) rfl rfl ?_
      refine sf_loc (lv' := [(0, .ref (q 0)), (1, .int u0), (2, .int u1), (3, .int (0 : Int32)), (4, .int (1 : Int32)), (5, .int (0 : Int32))]) [3, 4, 5, 2, 1, 0] rfl ?_
      exact h
  | 1, h =>
      replace h := fe_R_X7_singles_1 h
      unfold tr_R_X7_singles_1 at h
      show sf_G p l e (headSpec wsX7_singles ({ frames := 0, cells := 0, slots := 0, locals := 0 })).room s m args below meth c (sf_Qi D vwCl q dA KM sf_EM below args s r τ) 6 D vwCl q dA KM σ 8 [(0, .ref (q 0)), (1, .int u0), (2, .int u1), (3, .int u2), (4, .int u3), (5, .int u4)] []
      refine sf_iload (i := 5) (j := 5) X dX7_singles_8 rfl rfl ?_
      refine sf_aload_n (i := 0) (j := 0) X dX7_singles_10 rfl rfl rfl ?_
      refine sf_getI (C := RX7) (T := TX7) (N := 23) (ci := 7) (j := 4) X (fun w h => sf_memc (inX7 w h)) rfl rfl (by decide) (X.1.2.2.2.2 _ (sf_memc tw_635)) (fun _ h9 => h9) rfl dX7_singles_11 rfl ?_
      refine sf_icmp_ge (tgt := 77) X dX7_singles_14 rfl rfl (fun c1 => ?_) (fun c1 => ?_)
      · have h := sf_ift c1 h
        refine sf_iload (i := 4) (j := 4) X dX7_singles_77 rfl rfl ?_
        refine sf_if_eq (tgt := 86) X dX7_singles_79 rfl rfl (fun c2 => ?_) (fun c2 => ?_)
        · have h := sf_ift c2 h
          refine sf_iconst (v := (-1)) X dX7_singles_86 sf_ic_m1 rfl ?_
          exact sf_reti X h dX7_singles_87
        · have h := sf_iff c2 h
          refine sf_iload_n (i := 3) (j := 3) X dX7_singles_82 rfl rfl rfl ?_
          refine sf_goto (tgt := 87) X dX7_singles_83 rfl ?_
          exact sf_reti X h dX7_singles_87
      · have h := sf_iff c1 h
        refine sf_iload (i := 5) (j := 5) X dX7_singles_17 rfl rfl ?_
        refine sf_iload_n (i := 2) (j := 2) X dX7_singles_19 rfl rfl rfl ?_
        refine sf_icmp_eq (tgt := 71) X dX7_singles_20 rfl rfl (fun c3 => ?_) (fun c3 => ?_)
        · have h := sf_ift c3 h
          refine sf_iinc (i := 5) (j := 5) (d := 1) (lv' := fun y4 => [(5, .int y4), (0, .ref (q 0)), (1, .int u0), (2, .int u1), (3, .int u2), (4, .int u3)]) X dX7_singles_71 rfl sf_ic_1 (by decide) (fun _ => rfl) rfl (fun y4 hy4 => ?_)
          have h := h y4 hy4
          refine sf_goto (tgt := 8) X dX7_singles_74 rfl ?_
          refine sf_loc (lv' := [(0, .ref (q 0)), (1, .int u0), (2, .int u1), (3, .int u2), (4, .int u3), (5, .int y4)]) [1, 2, 3, 4, 5, 0] rfl ?_
          exact h
        · have h := sf_iff c3 h
          refine sf_aload_n (i := 0) (j := 0) X dX7_singles_23 rfl rfl rfl ?_
          refine sf_getR (C := RX7) (T := TX7) (N := 23) (ci := 7) (j := 5) (k' := 4) X (fun w h => sf_memc (inX7 w h)) rfl rfl (by decide) (X.1.2.2.2.2 _ (sf_memc tw_636)) (fun _ h9 => h9) rfl dX7_singles_24 rfl ?_
          refine sf_iload (i := 5) (j := 5) X dX7_singles_27 rfl rfl ?_
          obtain ⟨b5, h⟩ := h
          refine sf_iald X rfl b5 dX7_singles_29 rfl ?_
          refine sf_iload_n (i := 1) (j := 1) X dX7_singles_30 rfl rfl rfl ?_
          refine sf_icmp_eq (tgt := 45) X dX7_singles_31 rfl rfl (fun c6 => ?_) (fun c6 => ?_)
          · have h := sf_ift c6 h
            refine sf_iinc (i := 3) (j := 3) (d := 1) (lv' := fun y7 => [(3, .int y7), (0, .ref (q 0)), (1, .int u0), (2, .int u1), (4, .int u3), (5, .int u4)]) X dX7_singles_45 rfl sf_ic_1 (by decide) (fun _ => rfl) rfl (fun y7 hy7 => ?_)
            have h := h y7 hy7
            refine sf_iload (i := 4) (j := 4) X dX7_singles_48 rfl rfl ?_
            refine sf_if_eq (tgt := 68) X dX7_singles_50 rfl rfl (fun c8 => ?_) (fun c8 => ?_)
            · have h := sf_ift c8 h
              refine sf_iconst (v := 0) X dX7_singles_68 sf_ic_0 rfl ?_
              refine sf_istore (i := 4) (lv' := [(4, .int (0 : Int32)), (3, .int y7), (0, .ref (q 0)), (1, .int u0), (2, .int u1), (5, .int u4)]) X dX7_singles_69 (by decide) rfl rfl ?_
              refine sf_iinc (i := 5) (j := 5) (d := 1) (lv' := fun y9 => [(5, .int y9), (4, .int (0 : Int32)), (3, .int y7), (0, .ref (q 0)), (1, .int u0), (2, .int u1)]) X dX7_singles_71 rfl sf_ic_1 (by decide) (fun _ => rfl) rfl (fun y9 hy9 => ?_)
              have h := h y9 hy9
              refine sf_goto (tgt := 8) X dX7_singles_74 rfl ?_
              refine sf_loc (lv' := [(0, .ref (q 0)), (1, .int u0), (2, .int u1), (3, .int y7), (4, .int (0 : Int32)), (5, .int y9)]) [3, 4, 5, 2, 1, 0] rfl ?_
              exact h
            · have h := sf_iff c8 h
              refine sf_aload_n (i := 0) (j := 1) X dX7_singles_53 rfl rfl rfl ?_
              refine sf_getR (C := RX7) (T := TX7) (N := 23) (ci := 7) (j := 7) (k' := 6) X (fun w h => sf_memc (inX7 w h)) rfl rfl (by decide) (X.1.2.2.2.2 _ (sf_memc tw_638)) (fun _ h9 => h9) rfl dX7_singles_54 rfl ?_
              refine sf_iload (i := 5) (j := 5) X dX7_singles_57 rfl rfl ?_
              obtain ⟨b10, h⟩ := h
              refine sf_iald X rfl b10 dX7_singles_59 rfl ?_
              refine sf_iconst (v := 1) X dX7_singles_60 sf_ic_1 rfl ?_
              refine sf_icmp_ne (tgt := 68) X dX7_singles_61 rfl rfl (fun c11 => ?_) (fun c11 => ?_)
              · have h := sf_iff c11 h
                refine sf_iconst (v := 0) X dX7_singles_68 sf_ic_0 rfl ?_
                refine sf_istore (i := 4) (lv' := [(4, .int (0 : Int32)), (3, .int y7), (0, .ref (q 0)), (1, .int u0), (2, .int u1), (5, .int u4)]) X dX7_singles_69 (by decide) rfl rfl ?_
                refine sf_iinc (i := 5) (j := 5) (d := 1) (lv' := fun y12 => [(5, .int y12), (4, .int (0 : Int32)), (3, .int y7), (0, .ref (q 0)), (1, .int u0), (2, .int u1)]) X dX7_singles_71 rfl sf_ic_1 (by decide) (fun _ => rfl) rfl (fun y12 hy12 => ?_)
                have h := h y12 hy12
                refine sf_goto (tgt := 8) X dX7_singles_74 rfl ?_
                refine sf_loc (lv' := [(0, .ref (q 0)), (1, .int u0), (2, .int u1), (3, .int y7), (4, .int (0 : Int32)), (5, .int y12)]) [3, 4, 5, 2, 1, 0] rfl ?_
                exact h
              · have h := sf_ift c11 h
                refine sf_iconst (v := 1) X dX7_singles_64 sf_ic_1 rfl ?_
                refine sf_goto (tgt := 69) X dX7_singles_65 rfl ?_
                refine sf_istore (i := 4) (lv' := [(4, .int (1 : Int32)), (3, .int y7), (0, .ref (q 0)), (1, .int u0), (2, .int u1), (5, .int u4)]) X dX7_singles_69 (by decide) rfl rfl ?_
                refine sf_iinc (i := 5) (j := 5) (d := 1) (lv' := fun y13 => [(5, .int y13), (4, .int (1 : Int32)), (3, .int y7), (0, .ref (q 0)), (1, .int u0), (2, .int u1)]) X dX7_singles_71 rfl sf_ic_1 (by decide) (fun _ => rfl) rfl (fun y13 hy13 => ?_)
                have h := h y13 hy13
                refine sf_goto (tgt := 8) X dX7_singles_74 rfl ?_
                refine sf_loc (lv' := [(0, .ref (q 0)), (1, .int u0), (2, .int u1), (3, .int y7), (4, .int (1 : Int32)), (5, .int y13)]) [3, 4, 5, 2, 1, 0] rfl ?_
                exact h
          · have h := sf_iff c6 h
            refine sf_aload_n (i := 0) (j := 0) X dX7_singles_34 rfl rfl rfl ?_
            refine sf_getR (C := RX7) (T := TX7) (N := 23) (ci := 7) (j := 6) (k' := 5) X (fun w h => sf_memc (inX7 w h)) rfl rfl (by decide) (X.1.2.2.2.2 _ (sf_memc tw_637)) (fun _ h9 => h9) rfl dX7_singles_35 rfl ?_
            refine sf_iload (i := 5) (j := 5) X dX7_singles_38 rfl rfl ?_
            obtain ⟨b14, h⟩ := h
            refine sf_iald X rfl b14 dX7_singles_40 rfl ?_
            refine sf_iload_n (i := 1) (j := 1) X dX7_singles_41 rfl rfl rfl ?_
            refine sf_icmp_ne (tgt := 71) X dX7_singles_42 rfl rfl (fun c15 => ?_) (fun c15 => ?_)
            · have h := sf_iff c15 h
              refine sf_iinc (i := 5) (j := 5) (d := 1) (lv' := fun y16 => [(5, .int y16), (0, .ref (q 0)), (1, .int u0), (2, .int u1), (3, .int u2), (4, .int u3)]) X dX7_singles_71 rfl sf_ic_1 (by decide) (fun _ => rfl) rfl (fun y16 hy16 => ?_)
              have h := h y16 hy16
              refine sf_goto (tgt := 8) X dX7_singles_74 rfl ?_
              refine sf_loc (lv' := [(0, .ref (q 0)), (1, .int u0), (2, .int u1), (3, .int u2), (4, .int u3), (5, .int y16)]) [1, 2, 3, 4, 5, 0] rfl ?_
              exact h
            · have h := sf_ift c15 h
              refine sf_iinc (i := 3) (j := 3) (d := 1) (lv' := fun y17 => [(3, .int y17), (0, .ref (q 0)), (1, .int u0), (2, .int u1), (4, .int u3), (5, .int u4)]) X dX7_singles_45 rfl sf_ic_1 (by decide) (fun _ => rfl) rfl (fun y17 hy17 => ?_)
              have h := h y17 hy17
              refine sf_iload (i := 4) (j := 4) X dX7_singles_48 rfl rfl ?_
              refine sf_if_eq (tgt := 68) X dX7_singles_50 rfl rfl (fun c18 => ?_) (fun c18 => ?_)
              · have h := sf_ift c18 h
                refine sf_iconst (v := 0) X dX7_singles_68 sf_ic_0 rfl ?_
                refine sf_istore (i := 4) (lv' := [(4, .int (0 : Int32)), (3, .int y17), (0, .ref (q 0)), (1, .int u0), (2, .int u1), (5, .int u4)]) X dX7_singles_69 (by decide) rfl rfl ?_
                refine sf_iinc (i := 5) (j := 5) (d := 1) (lv' := fun y19 => [(5, .int y19), (4, .int (0 : Int32)), (3, .int y17), (0, .ref (q 0)), (1, .int u0), (2, .int u1)]) X dX7_singles_71 rfl sf_ic_1 (by decide) (fun _ => rfl) rfl (fun y19 hy19 => ?_)
                have h := h y19 hy19
                refine sf_goto (tgt := 8) X dX7_singles_74 rfl ?_
                refine sf_loc (lv' := [(0, .ref (q 0)), (1, .int u0), (2, .int u1), (3, .int y17), (4, .int (0 : Int32)), (5, .int y19)]) [3, 4, 5, 2, 1, 0] rfl ?_
                exact h
              · have h := sf_iff c18 h
                refine sf_aload_n (i := 0) (j := 1) X dX7_singles_53 rfl rfl rfl ?_
                refine sf_getR (C := RX7) (T := TX7) (N := 23) (ci := 7) (j := 7) (k' := 6) X (fun w h => sf_memc (inX7 w h)) rfl rfl (by decide) (X.1.2.2.2.2 _ (sf_memc tw_638)) (fun _ h9 => h9) rfl dX7_singles_54 rfl ?_
                refine sf_iload (i := 5) (j := 5) X dX7_singles_57 rfl rfl ?_
                obtain ⟨b20, h⟩ := h
                refine sf_iald X rfl b20 dX7_singles_59 rfl ?_
                refine sf_iconst (v := 1) X dX7_singles_60 sf_ic_1 rfl ?_
                refine sf_icmp_ne (tgt := 68) X dX7_singles_61 rfl rfl (fun c21 => ?_) (fun c21 => ?_)
                · have h := sf_iff c21 h
                  refine sf_iconst (v := 0) X dX7_singles_68 sf_ic_0 rfl ?_
                  refine sf_istore (i := 4) (lv' := [(4, .int (0 : Int32)), (3, .int y17), (0, .ref (q 0)), (1, .int u0), (2, .int u1), (5, .int u4)]) X dX7_singles_69 (by decide) rfl rfl ?_
                  refine sf_iinc (i := 5) (j := 5) (d := 1) (lv' := fun y22 => [(5, .int y22), (4, .int (0 : Int32)), (3, .int y17), (0, .ref (q 0)), (1, .int u0), (2, .int u1)]) X dX7_singles_71 rfl sf_ic_1 (by decide) (fun _ => rfl) rfl (fun y22 hy22 => ?_)
                  have h := h y22 hy22
                  refine sf_goto (tgt := 8) X dX7_singles_74 rfl ?_
                  refine sf_loc (lv' := [(0, .ref (q 0)), (1, .int u0), (2, .int u1), (3, .int y17), (4, .int (0 : Int32)), (5, .int y22)]) [3, 4, 5, 2, 1, 0] rfl ?_
                  exact h
                · have h := sf_ift c21 h
                  refine sf_iconst (v := 1) X dX7_singles_64 sf_ic_1 rfl ?_
                  refine sf_goto (tgt := 69) X dX7_singles_65 rfl ?_
                  refine sf_istore (i := 4) (lv' := [(4, .int (1 : Int32)), (3, .int y17), (0, .ref (q 0)), (1, .int u0), (2, .int u1), (5, .int u4)]) X dX7_singles_69 (by decide) rfl rfl ?_
                  refine sf_iinc (i := 5) (j := 5) (d := 1) (lv' := fun y23 => [(5, .int y23), (4, .int (1 : Int32)), (3, .int y17), (0, .ref (q 0)), (1, .int u0), (2, .int u1)]) X dX7_singles_71 rfl sf_ic_1 (by decide) (fun _ => rfl) rfl (fun y23 hy23 => ?_)
                  have h := h y23 hy23
                  refine sf_goto (tgt := 8) X dX7_singles_74 rfl ?_
                  refine sf_loc (lv' := [(0, .ref (q 0)), (1, .int u0), (2, .int u1), (3, .int y17), (4, .int (1 : Int32)), (5, .int y23)]) [3, 4, 5, 2, 1, 0] rfl ?_
                  exact h
  | (_ + 2), _ => exact trivial
def R_X7_isCentre (σ : sf_St) (u0 : Int32) (r : Int32) (τ : sf_St) : Prop :=
  vp_in u0 7 ∧ (if (σ 1 (sf_ix u0)) = (0 : Int32) then (∃ (r5 : Int32) (τ4 : sf_St), R_X7_singles σ u0 (-1 : Int32) r5 τ4 ∧ (if r5 < (3 : Int32) then (r = (0 : Int32) ∧ τ = τ4) else (r = (1 : Int32) ∧ τ = τ4))) else (r = (0 : Int32) ∧ τ = σ))
set_option maxHeartbeats 4000000 in
set_option maxRecDepth 100000 in
theorem c_X7_isCentre {l : Launch} {D : va_G} {q : Nat → Nat} {dA : Nat → ClassId}  (hq : sf_inj q KM) {σ τ : sf_St} {u0 : Int32} {r : Int32} (h : R_X7_isCentre σ u0 r τ) : sf_Mi l yX7_isCentre wsX7_isCentre ({ frames := 1, cells := 0, slots := 0, locals := 25 }) D vwCl q dA KM sf_EM [.ref (q 0), .int u0] σ r τ := by
  refine sf_meti (cc := cX7_isCentre) (maxL := 2) (ret := (some .boolean)) (own := RX7) (by decide +kernel) rfl rfl hq sf_EMk (Nat.le_of_ble_eq_true rfl) ?_
  intro p e s m args below meth c X
  unfold R_X7_isCentre at h
  refine sf_loc (lv' := [(0, .ref (q 0)), (1, .int u0)]) [0, 1] rfl ?_
  refine sf_aload_n (i := 0) (j := 0) X dX7_isCentre_0 rfl rfl rfl ?_
  refine sf_getR (C := RX7) (T := TX7) (N := 23) (ci := 7) (j := 1) (k' := 1) X (fun w h => sf_memc (inX7 w h)) rfl rfl (by decide) (X.1.2.2.2.2 _ (sf_memc tw_632)) (fun _ h9 => h9) rfl dX7_isCentre_1 rfl ?_
  refine sf_iload_n (i := 1) (j := 1) X dX7_isCentre_4 rfl rfl rfl ?_
  obtain ⟨b1, h⟩ := h
  refine sf_iald X rfl b1 dX7_isCentre_5 rfl ?_
  refine sf_if_ne (tgt := 23) X dX7_isCentre_6 rfl rfl (fun c2 => ?_) (fun c2 => ?_)
  · have h := sf_iff c2 h
    refine sf_iconst (v := 0) X dX7_isCentre_23 sf_ic_0 rfl ?_
    exact sf_retz X h rfl dX7_isCentre_24
  · have h := sf_ift c2 h
    refine sf_aload_n (i := 0) (j := 0) X dX7_isCentre_9 rfl rfl rfl ?_
    refine sf_iload_n (i := 1) (j := 1) X dX7_isCentre_10 rfl rfl rfl ?_
    refine sf_iconst (v := (-1)) X dX7_isCentre_11 sf_ic_m1 rfl ?_
    obtain ⟨r5, τ4, hR3, h⟩ := h
    refine sf_callVi (As := [.int u0, .int (-1 : Int32)]) (rest := []) (cv := (RX7, TX7, 23)) X rfl rfl (c_X7_singles hq hR3) (cwV 2 X.1.2.2.2.2 (sf_gV tw_767 tw_769 tw_22 tw_48 tw_770) rfl rfl rfl ⟨rfl, hd_X7_singles⟩ ⟨Nat.le_of_ble_eq_true rfl, Nat.le_of_ble_eq_true rfl⟩) rfl rfl (Nat.le_of_ble_eq_true rfl) dX7_isCentre_12 rfl ?_
    refine sf_iconst (v := 3) X dX7_isCentre_15 sf_ic_3 rfl ?_
    refine sf_icmp_lt (tgt := 23) X dX7_isCentre_16 rfl rfl (fun c6 => ?_) (fun c6 => ?_)
    · have h := sf_ift c6 h
      refine sf_iconst (v := 0) X dX7_isCentre_23 sf_ic_0 rfl ?_
      exact sf_retz X h rfl dX7_isCentre_24
    · have h := sf_iff c6 h
      refine sf_iconst (v := 1) X dX7_isCentre_19 sf_ic_1 rfl ?_
      refine sf_goto (tgt := 24) X dX7_isCentre_20 rfl ?_
      exact sf_retz X h rfl dX7_isCentre_24
def tr_R_X7_points_0 (Pr : Nat → sf_St → Int32 → Int32 → Int32 → Prop) (r : Int32) (τ : sf_St) (σ : sf_St) (u0 u1 u2 : Int32) : Prop :=
  Pr 1 σ u0 (0 : Int32) (0 : Int32)
def tr_R_X7_points_1 (Pr : Nat → sf_St → Int32 → Int32 → Int32 → Prop) (r : Int32) (τ : sf_St) (σ : sf_St) (u0 u1 u2 : Int32) : Prop :=
  if (σ 0 0) ≤ u2 then (r = u1 ∧ τ = σ) else (vp_in u2 7 ∧ (∃ (r5 : Int32) (τ4 : sf_St), R_X7_bondOf σ u0 (σ 8 (sf_ix u2)) r5 τ4 ∧ (if r5 < (0 : Int32) then (∀ y7 : Int32, y7 = u2 + (1 : Int32) → (Pr 1 τ4 u0 u1 y7)) else (vp_in u2 7 ∧ (vp_in (τ4 8 (sf_ix u2)) 7 ∧ (vp_in u0 7 ∧ (vp_in ((3 : Int32) * u1) 12 ∧ (∀ τ12 : sf_St, τ12 = sf_up τ4 14 (sf_ix ((3 : Int32) * u1)) ((τ4 2 (sf_ix (τ4 8 (sf_ix u2)))) - (τ4 2 (sf_ix u0))) → (vp_in u2 7 ∧ (vp_in (τ12 8 (sf_ix u2)) 7 ∧ (vp_in u0 7 ∧ (vp_in (((3 : Int32) * u1) + (1 : Int32)) 12 ∧ (∀ τ17 : sf_St, τ17 = sf_up τ12 14 (sf_ix (((3 : Int32) * u1) + (1 : Int32))) ((τ12 3 (sf_ix (τ12 8 (sf_ix u2)))) - (τ12 3 (sf_ix u0))) → (vp_in r5 9 ∧ (if (τ17 4 (sf_ix r5)) = u0 then (vp_in r5 9 ∧ (if (τ17 7 (sf_ix r5)) = (1 : Int32) then (vp_in (((3 : Int32) * u1) + (2 : Int32)) 12 ∧ (∀ τ33 : sf_St, τ33 = sf_up τ17 14 (sf_ix (((3 : Int32) * u1) + (2 : Int32))) (1 : Int32) → (∀ y34 : Int32, y34 = u1 + (1 : Int32) → (∀ y35 : Int32, y35 = u2 + (1 : Int32) → (Pr 1 τ33 u0 y34 y35))))) else (vp_in r5 9 ∧ (if (τ17 7 (sf_ix r5)) = (2 : Int32) then (vp_in (((3 : Int32) * u1) + (2 : Int32)) 12 ∧ (∀ τ29 : sf_St, τ29 = sf_up τ17 14 (sf_ix (((3 : Int32) * u1) + (2 : Int32))) (-1 : Int32) → (∀ y30 : Int32, y30 = u1 + (1 : Int32) → (∀ y31 : Int32, y31 = u2 + (1 : Int32) → (Pr 1 τ29 u0 y30 y31))))) else (vp_in (((3 : Int32) * u1) + (2 : Int32)) 12 ∧ (∀ τ25 : sf_St, τ25 = sf_up τ17 14 (sf_ix (((3 : Int32) * u1) + (2 : Int32))) (0 : Int32) → (∀ y26 : Int32, y26 = u1 + (1 : Int32) → (∀ y27 : Int32, y27 = u2 + (1 : Int32) → (Pr 1 τ25 u0 y26 y27))))))))) else (vp_in (((3 : Int32) * u1) + (2 : Int32)) 12 ∧ (∀ τ37 : sf_St, τ37 = sf_up τ17 14 (sf_ix (((3 : Int32) * u1) + (2 : Int32))) (0 : Int32) → (∀ y38 : Int32, y38 = u1 + (1 : Int32) → (∀ y39 : Int32, y39 = u2 + (1 : Int32) → (Pr 1 τ37 u0 y38 y39))))))))))))))))))))
def fn_R_X7_points (Pr : Nat → sf_St → Int32 → Int32 → Int32 → Prop) (r : Int32) (τ : sf_St) (t : Nat) (σ : sf_St) (u0 u1 u2 : Int32) : Prop := match t with
  | 0 => tr_R_X7_points_0 Pr r τ σ u0 u1 u2
  | 1 => tr_R_X7_points_1 Pr r τ σ u0 u1 u2
  | _ => False
def Rn_R_X7_points (t : Nat) (σ : sf_St) (u0 u1 u2 : Int32) (r : Int32) (τ : sf_St) : Prop := ∀ Pr : Nat → sf_St → Int32 → Int32 → Int32 → Prop, (∀ (t : Nat) (σ : sf_St) (u0 u1 u2 : Int32), fn_R_X7_points Pr r τ t σ u0 u1 u2 → Pr t σ u0 u1 u2) → Pr t σ u0 u1 u2
def R_X7_points (σ : sf_St) (u0 : Int32) (r : Int32) (τ : sf_St) : Prop := Rn_R_X7_points 0 σ u0 0 0 r τ
theorem fe_R_X7_points_0 {Pr : Nat → sf_St → Int32 → Int32 → Int32 → Prop} {r : Int32} {τ σ : sf_St} {u0 u1 u2 : Int32} (h : fn_R_X7_points Pr r τ 0 σ u0 u1 u2) : tr_R_X7_points_0 Pr r τ σ u0 u1 u2 := h
theorem mo_R_X7_points_0 {Pr Pr' : Nat → sf_St → Int32 → Int32 → Int32 → Prop} {r : Int32} {τ σ : sf_St} {u0 u1 u2 : Int32} (hP : ∀ (t : Nat) (σ : sf_St) (u0 u1 u2 : Int32), Pr t σ u0 u1 u2 → Pr' t σ u0 u1 u2) (h : tr_R_X7_points_0 Pr r τ σ u0 u1 u2) : tr_R_X7_points_0 Pr' r τ σ u0 u1 u2 := by
  unfold tr_R_X7_points_0 at h ⊢
  exact hP _ _ _ _ _ h
theorem ru_R_X7_points_0 {r : Int32} {τ σ : sf_St} {u0 u1 u2 : Int32} (h : tr_R_X7_points_0 (fun t σ u0 u1 u2 => Rn_R_X7_points t σ u0 u1 u2 r τ) r τ σ u0 u1 u2) : Rn_R_X7_points 0 σ u0 u1 u2 r τ := fun Pr hP => hP 0 σ u0 u1 u2 (mo_R_X7_points_0 (fun _ _ _ _ _ h => h Pr hP) h)
theorem fe_R_X7_points_1 {Pr : Nat → sf_St → Int32 → Int32 → Int32 → Prop} {r : Int32} {τ σ : sf_St} {u0 u1 u2 : Int32} (h : fn_R_X7_points Pr r τ 1 σ u0 u1 u2) : tr_R_X7_points_1 Pr r τ σ u0 u1 u2 := h
theorem mo_R_X7_points_1 {Pr Pr' : Nat → sf_St → Int32 → Int32 → Int32 → Prop} {r : Int32} {τ σ : sf_St} {u0 u1 u2 : Int32} (hP : ∀ (t : Nat) (σ : sf_St) (u0 u1 u2 : Int32), Pr t σ u0 u1 u2 → Pr' t σ u0 u1 u2) (h : tr_R_X7_points_1 Pr r τ σ u0 u1 u2) : tr_R_X7_points_1 Pr' r τ σ u0 u1 u2 := by
  unfold tr_R_X7_points_1 at h ⊢
  refine sf_mif (fun h => ?_) (fun h => ?_) h
  · exact h
  · refine And.imp id (fun h => ?_) h
    refine Exists.imp (fun _ h => Exists.imp (fun _ h => And.imp id (fun h => ?_) h) h) h
    refine sf_mif (fun h => ?_) (fun h => ?_) h
    · intro y7 hy7
      have h := h y7 hy7
      exact hP _ _ _ _ _ h
    · refine And.imp id (fun h => ?_) h
      refine And.imp id (fun h => ?_) h
      refine And.imp id (fun h => ?_) h
      refine And.imp id (fun h => ?_) h
      intro τ12 hτ12
      have h := h τ12 hτ12
      refine And.imp id (fun h => ?_) h
      refine And.imp id (fun h => ?_) h
      refine And.imp id (fun h => ?_) h
      refine And.imp id (fun h => ?_) h
      intro τ17 hτ17
      have h := h τ17 hτ17
      refine And.imp id (fun h => ?_) h
      refine sf_mif (fun h => ?_) (fun h => ?_) h
      · refine And.imp id (fun h => ?_) h
        refine sf_mif (fun h => ?_) (fun h => ?_) h
        · refine And.imp id (fun h => ?_) h
          intro τ33 hτ33
          have h := h τ33 hτ33
          intro y34 hy34
          have h := h y34 hy34
          intro y35 hy35
          have h := h y35 hy35
          exact hP _ _ _ _ _ h
        · refine And.imp id (fun h => ?_) h
          refine sf_mif (fun h => ?_) (fun h => ?_) h
          · refine And.imp id (fun h => ?_) h
            intro τ29 hτ29
            have h := h τ29 hτ29
            intro y30 hy30
            have h := h y30 hy30
            intro y31 hy31
            have h := h y31 hy31
            exact hP _ _ _ _ _ h
          · refine And.imp id (fun h => ?_) h
            intro τ25 hτ25
            have h := h τ25 hτ25
            intro y26 hy26
            have h := h y26 hy26
            intro y27 hy27
            have h := h y27 hy27
            exact hP _ _ _ _ _ h
      · refine And.imp id (fun h => ?_) h
        intro τ37 hτ37
        have h := h τ37 hτ37
        intro y38 hy38
        have h := h y38 hy38
        intro y39 hy39
        have h := h y39 hy39
        exact hP _ _ _ _ _ h
theorem ru_R_X7_points_1 {r : Int32} {τ σ : sf_St} {u0 u1 u2 : Int32} (h : tr_R_X7_points_1 (fun t σ u0 u1 u2 => Rn_R_X7_points t σ u0 u1 u2 r τ) r τ σ u0 u1 u2) : Rn_R_X7_points 1 σ u0 u1 u2 r τ := fun Pr hP => hP 1 σ u0 u1 u2 (mo_R_X7_points_1 (fun _ _ _ _ _ h => h Pr hP) h)
set_option maxHeartbeats 4000000 in
set_option maxRecDepth 100000 in
theorem c_X7_points {l : Launch} {D : va_G} {q : Nat → Nat} {dA : Nat → ClassId}  (hq : sf_inj q KM) {σ τ : sf_St} {u0 : Int32} {r : Int32} (h : R_X7_points σ u0 r τ) : sf_Mi l yX7_points wsX7_points ({ frames := 1, cells := 0, slots := 0, locals := 24 }) D vwCl q dA KM sf_EM [.ref (q 0), .int u0] σ r τ := by
  refine sf_meti (cc := cX7_points) (maxL := 5) (ret := (some .int)) (own := RX7) (by decide +kernel) rfl rfl hq sf_EMk (Nat.le_of_ble_eq_true rfl) ?_
  intro p e s m args below meth c X
  refine sf_loc (lv' := [(0, .ref (q 0)), (1, .int u0)]) [0, 1] rfl ?_
  refine h (fun t σ u0 u1 u2 => match t with
    | 0 => sf_G p l e (headSpec wsX7_points ({ frames := 1, cells := 0, slots := 0, locals := 24 })).room s m args below meth c (sf_Qi D vwCl q dA KM sf_EM below args s r τ) 5 D vwCl q dA KM σ 0 [(0, .ref (q 0)), (1, .int u0)] []
    | 1 => sf_G p l e (headSpec wsX7_points ({ frames := 1, cells := 0, slots := 0, locals := 24 })).room s m args below meth c (sf_Qi D vwCl q dA KM sf_EM below args s r τ) 5 D vwCl q dA KM σ 4 [(0, .ref (q 0)), (1, .int u0), (2, .int u1), (3, .int u2)] []
    | _ => True) ?_
  intro t σ u0 u1 u2 h
  match t, h with
  | 0, h =>
      replace h := fe_R_X7_points_0 h
      unfold tr_R_X7_points_0 at h
      show sf_G p l e (headSpec wsX7_points ({ frames := 1, cells := 0, slots := 0, locals := 24 })).room s m args below meth c (sf_Qi D vwCl q dA KM sf_EM below args s r τ) 5 D vwCl q dA KM σ 0 [(0, .ref (q 0)), (1, .int u0)] []
      refine sf_iconst (v := 0) X dX7_points_0 sf_ic_0 rfl ?_
      refine sf_istore_n (i := 2) (lv' := [(2, .int (0 : Int32)), (0, .ref (q 0)), (1, .int u0)]) X dX7_points_1 rfl (by decide) rfl rfl ?_
      refine sf_iconst (v := 0) X dX7_points_2 sf_ic_0 rfl ?_
      refine sf_istore_n (i := 3) (lv' := [(3, .int (0 : Int32)), (2, .int (0 : Int32)), (0, .ref (q 0)), (1, .int u0)]) X dX7_points_3 rfl (by decide) rfl rfl ?_
      refine sf_loc (lv' := [(0, .ref (q 0)), (1, .int u0), (2, .int (0 : Int32)), (3, .int (0 : Int32))]) [2, 3, 1, 0] rfl ?_
      exact h
  | 1, h =>
      replace h := fe_R_X7_points_1 h
      unfold tr_R_X7_points_1 at h
      show sf_G p l e (headSpec wsX7_points ({ frames := 1, cells := 0, slots := 0, locals := 24 })).room s m args below meth c (sf_Qi D vwCl q dA KM sf_EM below args s r τ) 5 D vwCl q dA KM σ 4 [(0, .ref (q 0)), (1, .int u0), (2, .int u1), (3, .int u2)] []
      refine sf_iload_n (i := 3) (j := 3) X dX7_points_4 rfl rfl rfl ?_
      refine sf_aload_n (i := 0) (j := 0) X dX7_points_5 rfl rfl rfl ?_
      refine sf_getI (C := RX7) (T := TX7) (N := 23) (ci := 7) (j := 0) X (fun w h => sf_memc (inX7 w h)) rfl rfl (by decide) (X.1.2.2.2.2 _ (sf_memc tw_631)) (fun _ h9 => h9) rfl dX7_points_6 rfl ?_
      refine sf_icmp_ge (tgt := 149) X dX7_points_9 rfl rfl (fun c1 => ?_) (fun c1 => ?_)
      · have h := sf_ift c1 h
        refine sf_iload_n (i := 2) (j := 2) X dX7_points_149 rfl rfl rfl ?_
        exact sf_reti X h dX7_points_150
      · have h := sf_iff c1 h
        refine sf_aload_n (i := 0) (j := 0) X dX7_points_12 rfl rfl rfl ?_
        refine sf_iload_n (i := 1) (j := 1) X dX7_points_13 rfl rfl rfl ?_
        refine sf_aload_n (i := 0) (j := 0) X dX7_points_14 rfl rfl rfl ?_
        refine sf_getR (C := RX7) (T := TX7) (N := 23) (ci := 7) (j := 9) (k' := 8) X (fun w h => sf_memc (inX7 w h)) rfl rfl (by decide) (X.1.2.2.2.2 _ (sf_memc tw_640)) (fun _ h9 => h9) rfl dX7_points_15 rfl ?_
        refine sf_iload_n (i := 3) (j := 3) X dX7_points_18 rfl rfl rfl ?_
        obtain ⟨b2, h⟩ := h
        refine sf_iald X rfl b2 dX7_points_19 rfl ?_
        obtain ⟨r5, τ4, hR3, h⟩ := h
        refine sf_callVi (As := [.int u0, .int (σ 8 (sf_ix u2))]) (rest := []) (cv := (RX7, TX7, 23)) X rfl rfl (c_X7_bondOf hq hR3) (cwV 2 X.1.2.2.2.2 (sf_gV tw_716 tw_718 tw_16 tw_48 tw_719) rfl rfl rfl ⟨rfl, hd_X7_bondOf⟩ ⟨Nat.le_of_ble_eq_true rfl, Nat.le_of_ble_eq_true rfl⟩) rfl rfl (Nat.le_of_ble_eq_true rfl) dX7_points_20 rfl ?_
        refine sf_istore (i := 4) (lv' := [(4, .int r5), (0, .ref (q 0)), (1, .int u0), (2, .int u1), (3, .int u2)]) X dX7_points_23 (by decide) rfl rfl ?_
        refine sf_iload (i := 4) (j := 0) X dX7_points_25 rfl rfl ?_
        refine sf_if_lt (tgt := 143) X dX7_points_27 rfl rfl (fun c6 => ?_) (fun c6 => ?_)
        · have h := sf_ift c6 h
          refine sf_iinc (i := 3) (j := 4) (d := 1) (lv' := fun y7 => [(3, .int y7), (4, .int r5), (0, .ref (q 0)), (1, .int u0), (2, .int u1)]) X dX7_points_143 rfl sf_ic_1 (by decide) (fun _ => rfl) rfl (fun y7 hy7 => ?_)
          have h := h y7 hy7
          refine sf_goto (tgt := 4) X dX7_points_146 rfl ?_
          refine sf_loc (lv' := [(0, .ref (q 0)), (1, .int u0), (2, .int u1), (3, .int y7)]) [2, 3, 4, 0] rfl ?_
          exact h
        · have h := sf_iff c6 h
          refine sf_aload_n (i := 0) (j := 1) X dX7_points_30 rfl rfl rfl ?_
          refine sf_getR (C := RX7) (T := TX7) (N := 23) (ci := 7) (j := 21) (k' := 14) X (fun w h => sf_memc (inX7 w h)) rfl rfl (by decide) (X.1.2.2.2.2 _ (sf_memc tw_652)) (fun _ h9 => h9) rfl dX7_points_31 rfl ?_
          refine sf_iconst (v := 3) X dX7_points_34 sf_ic_3 rfl ?_
          refine sf_iload_n (i := 2) (j := 3) X dX7_points_35 rfl rfl rfl ?_
          refine sf_imul X dX7_points_36 rfl ?_
          refine sf_aload_n (i := 0) (j := 1) X dX7_points_37 rfl rfl rfl ?_
          refine sf_getR (C := RX7) (T := TX7) (N := 23) (ci := 7) (j := 2) (k' := 2) X (fun w h => sf_memc (inX7 w h)) rfl rfl (by decide) (X.1.2.2.2.2 _ (sf_memc tw_633)) (fun _ h9 => h9) rfl dX7_points_38 rfl ?_
          refine sf_aload_n (i := 0) (j := 1) X dX7_points_41 rfl rfl rfl ?_
          refine sf_getR (C := RX7) (T := TX7) (N := 23) (ci := 7) (j := 9) (k' := 8) X (fun w h => sf_memc (inX7 w h)) rfl rfl (by decide) (X.1.2.2.2.2 _ (sf_memc tw_640)) (fun _ h9 => h9) rfl dX7_points_42 rfl ?_
          refine sf_iload_n (i := 3) (j := 4) X dX7_points_45 rfl rfl rfl ?_
          obtain ⟨b8, h⟩ := h
          refine sf_iald X rfl b8 dX7_points_46 rfl ?_
          obtain ⟨b9, h⟩ := h
          refine sf_iald X rfl b9 dX7_points_47 rfl ?_
          refine sf_aload_n (i := 0) (j := 1) X dX7_points_48 rfl rfl rfl ?_
          refine sf_getR (C := RX7) (T := TX7) (N := 23) (ci := 7) (j := 2) (k' := 2) X (fun w h => sf_memc (inX7 w h)) rfl rfl (by decide) (X.1.2.2.2.2 _ (sf_memc tw_633)) (fun _ h9 => h9) rfl dX7_points_49 rfl ?_
          refine sf_iload_n (i := 1) (j := 2) X dX7_points_52 rfl rfl rfl ?_
          obtain ⟨b10, h⟩ := h
          refine sf_iald X rfl b10 dX7_points_53 rfl ?_
          refine sf_isub X dX7_points_54 rfl ?_
          obtain ⟨b11, h⟩ := h
          refine sf_iast X rfl b11 dX7_points_55 rfl (fun τ12 hτ12 => ?_)
          have h := h τ12 hτ12
          refine sf_aload_n (i := 0) (j := 1) X dX7_points_56 rfl rfl rfl ?_
          refine sf_getR (C := RX7) (T := TX7) (N := 23) (ci := 7) (j := 21) (k' := 14) X (fun w h => sf_memc (inX7 w h)) rfl rfl (by decide) (X.1.2.2.2.2 _ (sf_memc tw_652)) (fun _ h9 => h9) rfl dX7_points_57 rfl ?_
          refine sf_iconst (v := 3) X dX7_points_60 sf_ic_3 rfl ?_
          refine sf_iload_n (i := 2) (j := 3) X dX7_points_61 rfl rfl rfl ?_
          refine sf_imul X dX7_points_62 rfl ?_
          refine sf_iconst (v := 1) X dX7_points_63 sf_ic_1 rfl ?_
          refine sf_iadd X dX7_points_64 rfl ?_
          refine sf_aload_n (i := 0) (j := 1) X dX7_points_65 rfl rfl rfl ?_
          refine sf_getR (C := RX7) (T := TX7) (N := 23) (ci := 7) (j := 3) (k' := 3) X (fun w h => sf_memc (inX7 w h)) rfl rfl (by decide) (X.1.2.2.2.2 _ (sf_memc tw_634)) (fun _ h9 => h9) rfl dX7_points_66 rfl ?_
          refine sf_aload_n (i := 0) (j := 1) X dX7_points_69 rfl rfl rfl ?_
          refine sf_getR (C := RX7) (T := TX7) (N := 23) (ci := 7) (j := 9) (k' := 8) X (fun w h => sf_memc (inX7 w h)) rfl rfl (by decide) (X.1.2.2.2.2 _ (sf_memc tw_640)) (fun _ h9 => h9) rfl dX7_points_70 rfl ?_
          refine sf_iload_n (i := 3) (j := 4) X dX7_points_73 rfl rfl rfl ?_
          obtain ⟨b13, h⟩ := h
          refine sf_iald X rfl b13 dX7_points_74 rfl ?_
          obtain ⟨b14, h⟩ := h
          refine sf_iald X rfl b14 dX7_points_75 rfl ?_
          refine sf_aload_n (i := 0) (j := 1) X dX7_points_76 rfl rfl rfl ?_
          refine sf_getR (C := RX7) (T := TX7) (N := 23) (ci := 7) (j := 3) (k' := 3) X (fun w h => sf_memc (inX7 w h)) rfl rfl (by decide) (X.1.2.2.2.2 _ (sf_memc tw_634)) (fun _ h9 => h9) rfl dX7_points_77 rfl ?_
          refine sf_iload_n (i := 1) (j := 2) X dX7_points_80 rfl rfl rfl ?_
          obtain ⟨b15, h⟩ := h
          refine sf_iald X rfl b15 dX7_points_81 rfl ?_
          refine sf_isub X dX7_points_82 rfl ?_
          obtain ⟨b16, h⟩ := h
          refine sf_iast X rfl b16 dX7_points_83 rfl (fun τ17 hτ17 => ?_)
          have h := h τ17 hτ17
          refine sf_aload_n (i := 0) (j := 1) X dX7_points_84 rfl rfl rfl ?_
          refine sf_getR (C := RX7) (T := TX7) (N := 23) (ci := 7) (j := 21) (k' := 14) X (fun w h => sf_memc (inX7 w h)) rfl rfl (by decide) (X.1.2.2.2.2 _ (sf_memc tw_652)) (fun _ h9 => h9) rfl dX7_points_85 rfl ?_
          refine sf_iconst (v := 3) X dX7_points_88 sf_ic_3 rfl ?_
          refine sf_iload_n (i := 2) (j := 3) X dX7_points_89 rfl rfl rfl ?_
          refine sf_imul X dX7_points_90 rfl ?_
          refine sf_iconst (v := 2) X dX7_points_91 sf_ic_2 rfl ?_
          refine sf_iadd X dX7_points_92 rfl ?_
          refine sf_aload_n (i := 0) (j := 1) X dX7_points_93 rfl rfl rfl ?_
          refine sf_getR (C := RX7) (T := TX7) (N := 23) (ci := 7) (j := 5) (k' := 4) X (fun w h => sf_memc (inX7 w h)) rfl rfl (by decide) (X.1.2.2.2.2 _ (sf_memc tw_636)) (fun _ h9 => h9) rfl dX7_points_94 rfl ?_
          refine sf_iload (i := 4) (j := 0) X dX7_points_97 rfl rfl ?_
          obtain ⟨b18, h⟩ := h
          refine sf_iald X rfl b18 dX7_points_99 rfl ?_
          refine sf_iload_n (i := 1) (j := 2) X dX7_points_100 rfl rfl rfl ?_
          refine sf_icmp_eq (tgt := 108) X dX7_points_101 rfl rfl (fun c19 => ?_) (fun c19 => ?_)
          · have h := sf_ift c19 h
            refine sf_aload_n (i := 0) (j := 1) X dX7_points_108 rfl rfl rfl ?_
            refine sf_getR (C := RX7) (T := TX7) (N := 23) (ci := 7) (j := 8) (k' := 7) X (fun w h => sf_memc (inX7 w h)) rfl rfl (by decide) (X.1.2.2.2.2 _ (sf_memc tw_639)) (fun _ h9 => h9) rfl dX7_points_109 rfl ?_
            refine sf_iload (i := 4) (j := 0) X dX7_points_112 rfl rfl ?_
            obtain ⟨b20, h⟩ := h
            refine sf_iald X rfl b20 dX7_points_114 rfl ?_
            refine sf_iconst (v := 1) X dX7_points_115 sf_ic_1 rfl ?_
            refine sf_icmp_ne (tgt := 123) X dX7_points_116 rfl rfl (fun c21 => ?_) (fun c21 => ?_)
            · have h := sf_iff c21 h
              refine sf_aload_n (i := 0) (j := 1) X dX7_points_123 rfl rfl rfl ?_
              refine sf_getR (C := RX7) (T := TX7) (N := 23) (ci := 7) (j := 8) (k' := 7) X (fun w h => sf_memc (inX7 w h)) rfl rfl (by decide) (X.1.2.2.2.2 _ (sf_memc tw_639)) (fun _ h9 => h9) rfl dX7_points_124 rfl ?_
              refine sf_iload (i := 4) (j := 0) X dX7_points_127 rfl rfl ?_
              obtain ⟨b22, h⟩ := h
              refine sf_iald X rfl b22 dX7_points_129 rfl ?_
              refine sf_iconst (v := 2) X dX7_points_130 sf_ic_2 rfl ?_
              refine sf_icmp_ne (tgt := 138) X dX7_points_131 rfl rfl (fun c23 => ?_) (fun c23 => ?_)
              · have h := sf_iff c23 h
                refine sf_iconst (v := 0) X dX7_points_138 sf_ic_0 rfl ?_
                obtain ⟨b24, h⟩ := h
                refine sf_iast X rfl b24 dX7_points_139 rfl (fun τ25 hτ25 => ?_)
                have h := h τ25 hτ25
                refine sf_iinc (i := 2) (j := 3) (d := 1) (lv' := fun y26 => [(2, .int y26), (4, .int r5), (0, .ref (q 0)), (1, .int u0), (3, .int u2)]) X dX7_points_140 rfl sf_ic_1 (by decide) (fun _ => rfl) rfl (fun y26 hy26 => ?_)
                have h := h y26 hy26
                refine sf_iinc (i := 3) (j := 4) (d := 1) (lv' := fun y27 => [(3, .int y27), (2, .int y26), (4, .int r5), (0, .ref (q 0)), (1, .int u0)]) X dX7_points_143 rfl sf_ic_1 (by decide) (fun _ => rfl) rfl (fun y27 hy27 => ?_)
                have h := h y27 hy27
                refine sf_goto (tgt := 4) X dX7_points_146 rfl ?_
                refine sf_loc (lv' := [(0, .ref (q 0)), (1, .int u0), (2, .int y26), (3, .int y27)]) [3, 4, 1, 0] rfl ?_
                exact h
              · have h := sf_ift c23 h
                refine sf_iconst (v := (-1)) X dX7_points_134 sf_ic_m1 rfl ?_
                refine sf_goto (tgt := 139) X dX7_points_135 rfl ?_
                obtain ⟨b28, h⟩ := h
                refine sf_iast X rfl b28 dX7_points_139 rfl (fun τ29 hτ29 => ?_)
                have h := h τ29 hτ29
                refine sf_iinc (i := 2) (j := 3) (d := 1) (lv' := fun y30 => [(2, .int y30), (4, .int r5), (0, .ref (q 0)), (1, .int u0), (3, .int u2)]) X dX7_points_140 rfl sf_ic_1 (by decide) (fun _ => rfl) rfl (fun y30 hy30 => ?_)
                have h := h y30 hy30
                refine sf_iinc (i := 3) (j := 4) (d := 1) (lv' := fun y31 => [(3, .int y31), (2, .int y30), (4, .int r5), (0, .ref (q 0)), (1, .int u0)]) X dX7_points_143 rfl sf_ic_1 (by decide) (fun _ => rfl) rfl (fun y31 hy31 => ?_)
                have h := h y31 hy31
                refine sf_goto (tgt := 4) X dX7_points_146 rfl ?_
                refine sf_loc (lv' := [(0, .ref (q 0)), (1, .int u0), (2, .int y30), (3, .int y31)]) [3, 4, 1, 0] rfl ?_
                exact h
            · have h := sf_ift c21 h
              refine sf_iconst (v := 1) X dX7_points_119 sf_ic_1 rfl ?_
              refine sf_goto (tgt := 139) X dX7_points_120 rfl ?_
              obtain ⟨b32, h⟩ := h
              refine sf_iast X rfl b32 dX7_points_139 rfl (fun τ33 hτ33 => ?_)
              have h := h τ33 hτ33
              refine sf_iinc (i := 2) (j := 3) (d := 1) (lv' := fun y34 => [(2, .int y34), (4, .int r5), (0, .ref (q 0)), (1, .int u0), (3, .int u2)]) X dX7_points_140 rfl sf_ic_1 (by decide) (fun _ => rfl) rfl (fun y34 hy34 => ?_)
              have h := h y34 hy34
              refine sf_iinc (i := 3) (j := 4) (d := 1) (lv' := fun y35 => [(3, .int y35), (2, .int y34), (4, .int r5), (0, .ref (q 0)), (1, .int u0)]) X dX7_points_143 rfl sf_ic_1 (by decide) (fun _ => rfl) rfl (fun y35 hy35 => ?_)
              have h := h y35 hy35
              refine sf_goto (tgt := 4) X dX7_points_146 rfl ?_
              refine sf_loc (lv' := [(0, .ref (q 0)), (1, .int u0), (2, .int y34), (3, .int y35)]) [3, 4, 1, 0] rfl ?_
              exact h
          · have h := sf_iff c19 h
            refine sf_iconst (v := 0) X dX7_points_104 sf_ic_0 rfl ?_
            refine sf_goto (tgt := 139) X dX7_points_105 rfl ?_
            obtain ⟨b36, h⟩ := h
            refine sf_iast X rfl b36 dX7_points_139 rfl (fun τ37 hτ37 => ?_)
            have h := h τ37 hτ37
            refine sf_iinc (i := 2) (j := 3) (d := 1) (lv' := fun y38 => [(2, .int y38), (4, .int r5), (0, .ref (q 0)), (1, .int u0), (3, .int u2)]) X dX7_points_140 rfl sf_ic_1 (by decide) (fun _ => rfl) rfl (fun y38 hy38 => ?_)
            have h := h y38 hy38
            refine sf_iinc (i := 3) (j := 4) (d := 1) (lv' := fun y39 => [(3, .int y39), (2, .int y38), (4, .int r5), (0, .ref (q 0)), (1, .int u0)]) X dX7_points_143 rfl sf_ic_1 (by decide) (fun _ => rfl) rfl (fun y39 hy39 => ?_)
            have h := h y39 hy39
            refine sf_goto (tgt := 4) X dX7_points_146 rfl ?_
            refine sf_loc (lv' := [(0, .ref (q 0)), (1, .int u0), (2, .int y38), (3, .int y39)]) [3, 4, 1, 0] rfl ?_
            exact h
  | (_ + 2), _ => exact trivial
def R_X7_sign (σ : sf_St) (u0 : Int32) (r : Int32) (τ : sf_St) : Prop :=
  if u0 ≤ (0 : Int32) then (if (0 : Int32) ≤ u0 then (r = (0 : Int32) ∧ τ = σ) else (r = (-1 : Int32) ∧ τ = σ)) else (r = (1 : Int32) ∧ τ = σ)
set_option maxHeartbeats 4000000 in
set_option maxRecDepth 100000 in
theorem c_X7_sign {l : Launch} {D : va_G} {q : Nat → Nat} {dA : Nat → ClassId}  (hq : sf_inj q KM) {σ τ : sf_St} {u0 : Int32} {r : Int32} (h : R_X7_sign σ u0 r τ) : sf_Mi l yX7_sign wsX7_sign ({ frames := 0, cells := 0, slots := 0, locals := 0 }) D vwCl q dA KM sf_EM [.int u0] σ r τ := by
  refine sf_meti (cc := cX7_sign) (maxL := 1) (ret := (some .int)) (own := RX7) (by decide +kernel) rfl rfl hq sf_EMk (Nat.le_of_ble_eq_true rfl) ?_
  intro p e s m args below meth c X
  unfold R_X7_sign at h
  refine sf_loc (lv' := [(0, .int u0)]) [0] rfl ?_
  refine sf_iload_n (i := 0) (j := 0) X dX7_sign_0 rfl rfl rfl ?_
  refine sf_if_le (tgt := 8) X dX7_sign_1 rfl rfl (fun c1 => ?_) (fun c1 => ?_)
  · have h := sf_ift c1 h
    refine sf_iload_n (i := 0) (j := 0) X dX7_sign_8 rfl rfl rfl ?_
    refine sf_if_ge (tgt := 16) X dX7_sign_9 rfl rfl (fun c2 => ?_) (fun c2 => ?_)
    · have h := sf_ift c2 h
      refine sf_iconst (v := 0) X dX7_sign_16 sf_ic_0 rfl ?_
      exact sf_reti X h dX7_sign_17
    · have h := sf_iff c2 h
      refine sf_iconst (v := (-1)) X dX7_sign_12 sf_ic_m1 rfl ?_
      refine sf_goto (tgt := 17) X dX7_sign_13 rfl ?_
      exact sf_reti X h dX7_sign_17
  · have h := sf_iff c1 h
    refine sf_iconst (v := 1) X dX7_sign_4 sf_ic_1 rfl ?_
    refine sf_goto (tgt := 17) X dX7_sign_5 rfl ?_
    exact sf_reti X h dX7_sign_17
def tr_R_X7_centreSense_0 (Pr : Nat → sf_St → Int32 → Int32 → Prop) (r : Int32) (τ : sf_St) (σ : sf_St) (u0 u1 : Int32) : Prop :=
  ∃ (r3 : Int32) (τ2 : sf_St), R_X7_isCentre σ u0 r3 τ2 ∧ (if r3 = (0 : Int32) then (r = (0 : Int32) ∧ τ = τ2) else (∃ (r7 : Int32) (τ6 : sf_St), R_X7_points τ2 u0 r7 τ6 ∧ (if r7 = (4 : Int32) then (Pr 1 τ6 u0 (0 : Int32)) else (∀ y9 : Int32, y9 = (((τ6 14 (sf_ix (4 : Int32))) * (τ6 14 (sf_ix (8 : Int32)))) - ((τ6 14 (sf_ix (5 : Int32))) * (τ6 14 (sf_ix (7 : Int32))))) → (∀ y10 : Int32, y10 = (((τ6 14 (sf_ix (3 : Int32))) * (τ6 14 (sf_ix (8 : Int32)))) - ((τ6 14 (sf_ix (5 : Int32))) * (τ6 14 (sf_ix (6 : Int32))))) → (∀ y11 : Int32, y11 = (((τ6 14 (sf_ix (3 : Int32))) * (τ6 14 (sf_ix (7 : Int32)))) - ((τ6 14 (sf_ix (4 : Int32))) * (τ6 14 (sf_ix (6 : Int32))))) → (∃ (r14 : Int32) (τ13 : sf_St), R_X7_sign τ6 ((((τ6 14 (sf_ix (0 : Int32))) * y9) - ((τ6 14 (sf_ix (1 : Int32))) * y10)) + ((τ6 14 (sf_ix (2 : Int32))) * y11)) r14 τ13 ∧ (r = r14 ∧ τ = τ13))))))))
def tr_R_X7_centreSense_1 (Pr : Nat → sf_St → Int32 → Int32 → Prop) (r : Int32) (τ : sf_St) (σ : sf_St) (u0 u1 : Int32) : Prop :=
  if (9 : Int32) ≤ u1 then (∀ y16 : Int32, y16 = (((σ 14 (sf_ix (4 : Int32))) * (σ 14 (sf_ix (8 : Int32)))) - ((σ 14 (sf_ix (5 : Int32))) * (σ 14 (sf_ix (7 : Int32))))) → (∀ y17 : Int32, y17 = (((σ 14 (sf_ix (3 : Int32))) * (σ 14 (sf_ix (8 : Int32)))) - ((σ 14 (sf_ix (5 : Int32))) * (σ 14 (sf_ix (6 : Int32))))) → (∀ y18 : Int32, y18 = (((σ 14 (sf_ix (3 : Int32))) * (σ 14 (sf_ix (7 : Int32)))) - ((σ 14 (sf_ix (4 : Int32))) * (σ 14 (sf_ix (6 : Int32))))) → (∃ (r21 : Int32) (τ20 : sf_St), R_X7_sign σ ((((σ 14 (sf_ix (0 : Int32))) * y16) - ((σ 14 (sf_ix (1 : Int32))) * y17)) + ((σ 14 (sf_ix (2 : Int32))) * y18)) r21 τ20 ∧ (r = r21 ∧ τ = τ20))))) else (vp_in u1 12 ∧ (vp_in ((9 : Int32) + (u1 - u1 / (3 : Int32) * (3 : Int32))) 12 ∧ (vp_in u1 12 ∧ (∀ τ25 : sf_St, τ25 = sf_up σ 14 (sf_ix u1) ((σ 14 (sf_ix u1)) - (σ 14 (sf_ix ((9 : Int32) + (u1 - u1 / (3 : Int32) * (3 : Int32)))))) → (∀ y26 : Int32, y26 = u1 + (1 : Int32) → (Pr 1 τ25 u0 y26))))))
def fn_R_X7_centreSense (Pr : Nat → sf_St → Int32 → Int32 → Prop) (r : Int32) (τ : sf_St) (t : Nat) (σ : sf_St) (u0 u1 : Int32) : Prop := match t with
  | 0 => tr_R_X7_centreSense_0 Pr r τ σ u0 u1
  | 1 => tr_R_X7_centreSense_1 Pr r τ σ u0 u1
  | _ => False
def Rn_R_X7_centreSense (t : Nat) (σ : sf_St) (u0 u1 : Int32) (r : Int32) (τ : sf_St) : Prop := ∀ Pr : Nat → sf_St → Int32 → Int32 → Prop, (∀ (t : Nat) (σ : sf_St) (u0 u1 : Int32), fn_R_X7_centreSense Pr r τ t σ u0 u1 → Pr t σ u0 u1) → Pr t σ u0 u1
def R_X7_centreSense (σ : sf_St) (u0 : Int32) (r : Int32) (τ : sf_St) : Prop := Rn_R_X7_centreSense 0 σ u0 0 r τ
theorem fe_R_X7_centreSense_0 {Pr : Nat → sf_St → Int32 → Int32 → Prop} {r : Int32} {τ σ : sf_St} {u0 u1 : Int32} (h : fn_R_X7_centreSense Pr r τ 0 σ u0 u1) : tr_R_X7_centreSense_0 Pr r τ σ u0 u1 := h
theorem mo_R_X7_centreSense_0 {Pr Pr' : Nat → sf_St → Int32 → Int32 → Prop} {r : Int32} {τ σ : sf_St} {u0 u1 : Int32} (hP : ∀ (t : Nat) (σ : sf_St) (u0 u1 : Int32), Pr t σ u0 u1 → Pr' t σ u0 u1) (h : tr_R_X7_centreSense_0 Pr r τ σ u0 u1) : tr_R_X7_centreSense_0 Pr' r τ σ u0 u1 := by
  unfold tr_R_X7_centreSense_0 at h ⊢
  refine Exists.imp (fun _ h => Exists.imp (fun _ h => And.imp id (fun h => ?_) h) h) h
  refine sf_mif (fun h => ?_) (fun h => ?_) h
  · exact h
  · refine Exists.imp (fun _ h => Exists.imp (fun _ h => And.imp id (fun h => ?_) h) h) h
    refine sf_mif (fun h => ?_) (fun h => ?_) h
    · exact hP _ _ _ _ h
    · intro y9 hy9
      have h := h y9 hy9
      intro y10 hy10
      have h := h y10 hy10
      intro y11 hy11
      have h := h y11 hy11
      refine Exists.imp (fun _ h => Exists.imp (fun _ h => And.imp id (fun h => ?_) h) h) h
      exact h
theorem ru_R_X7_centreSense_0 {r : Int32} {τ σ : sf_St} {u0 u1 : Int32} (h : tr_R_X7_centreSense_0 (fun t σ u0 u1 => Rn_R_X7_centreSense t σ u0 u1 r τ) r τ σ u0 u1) : Rn_R_X7_centreSense 0 σ u0 u1 r τ := fun Pr hP => hP 0 σ u0 u1 (mo_R_X7_centreSense_0 (fun _ _ _ _ h => h Pr hP) h)
theorem fe_R_X7_centreSense_1 {Pr : Nat → sf_St → Int32 → Int32 → Prop} {r : Int32} {τ σ : sf_St} {u0 u1 : Int32} (h : fn_R_X7_centreSense Pr r τ 1 σ u0 u1) : tr_R_X7_centreSense_1 Pr r τ σ u0 u1 := h
theorem mo_R_X7_centreSense_1 {Pr Pr' : Nat → sf_St → Int32 → Int32 → Prop} {r : Int32} {τ σ : sf_St} {u0 u1 : Int32} (hP : ∀ (t : Nat) (σ : sf_St) (u0 u1 : Int32), Pr t σ u0 u1 → Pr' t σ u0 u1) (h : tr_R_X7_centreSense_1 Pr r τ σ u0 u1) : tr_R_X7_centreSense_1 Pr' r τ σ u0 u1 := by
  unfold tr_R_X7_centreSense_1 at h ⊢
  refine sf_mif (fun h => ?_) (fun h => ?_) h
  · intro y16 hy16
    have h := h y16 hy16
    intro y17 hy17
    have h := h y17 hy17
    intro y18 hy18
    have h := h y18 hy18
    refine Exists.imp (fun _ h => Exists.imp (fun _ h => And.imp id (fun h => ?_) h) h) h
    exact h
  · refine And.imp id (fun h => ?_) h
    refine And.imp id (fun h => ?_) h
    refine And.imp id (fun h => ?_) h
    intro τ25 hτ25
    have h := h τ25 hτ25
    intro y26 hy26
    have h := h y26 hy26
    exact hP _ _ _ _ h
theorem ru_R_X7_centreSense_1 {r : Int32} {τ σ : sf_St} {u0 u1 : Int32} (h : tr_R_X7_centreSense_1 (fun t σ u0 u1 => Rn_R_X7_centreSense t σ u0 u1 r τ) r τ σ u0 u1) : Rn_R_X7_centreSense 1 σ u0 u1 r τ := fun Pr hP => hP 1 σ u0 u1 (mo_R_X7_centreSense_1 (fun _ _ _ _ h => h Pr hP) h)
set_option maxHeartbeats 4000000 in
set_option maxRecDepth 100000 in
theorem c_X7_centreSense {l : Launch} {D : va_G} {q : Nat → Nat} {dA : Nat → ClassId}  (hq : sf_inj q KM) {σ τ : sf_St} {u0 : Int32} {r : Int32} (h : R_X7_centreSense σ u0 r τ) : sf_Mi l yX7_centreSense wsX7_centreSense ({ frames := 2, cells := 0, slots := 0, locals := 48 }) D vwCl q dA KM sf_EM [.ref (q 0), .int u0] σ r τ := by
  refine sf_meti (cc := cX7_centreSense) (maxL := 5) (ret := (some .int)) (own := RX7) (by decide +kernel) rfl rfl hq sf_EMk (Nat.le_of_ble_eq_true rfl) ?_
  intro p e s m args below meth c X
  refine sf_loc (lv' := [(0, .ref (q 0)), (1, .int u0)]) [0, 1] rfl ?_
  refine h (fun t σ u0 u1 => match t with
    | 0 => sf_G p l e (headSpec wsX7_centreSense ({ frames := 2, cells := 0, slots := 0, locals := 48 })).room s m args below meth c (sf_Qi D vwCl q dA KM sf_EM below args s r τ) 5 D vwCl q dA KM σ 0 [(0, .ref (q 0)), (1, .int u0)] []
    | 1 => sf_G p l e (headSpec wsX7_centreSense ({ frames := 2, cells := 0, slots := 0, locals := 48 })).room s m args below meth c (sf_Qi D vwCl q dA KM sf_EM below args s r τ) 5 D vwCl q dA KM σ 21 [(0, .ref (q 0)), (1, .int u0), (2, .int u1)] []
    | _ => True) ?_
  intro t σ u0 u1 h
  match t, h with
  | 0, h =>
      replace h := fe_R_X7_centreSense_0 h
      unfold tr_R_X7_centreSense_0 at h
      show sf_G p l e (headSpec wsX7_centreSense ({ frames := 2, cells := 0, slots := 0, locals := 48 })).room s m args below meth c (sf_Qi D vwCl q dA KM sf_EM below args s r τ) 5 D vwCl q dA KM σ 0 [(0, .ref (q 0)), (1, .int u0)] []
      refine sf_aload_n (i := 0) (j := 0) X dX7_centreSense_0 rfl rfl rfl ?_
      refine sf_iload_n (i := 1) (j := 1) X dX7_centreSense_1 rfl rfl rfl ?_
      obtain ⟨r3, τ2, hR1, h⟩ := h
      refine sf_callVi (As := [.int u0]) (rest := []) (cv := (RX7, TX7, 23)) X rfl rfl (c_X7_isCentre hq hR1) (cwV 1 X.1.2.2.2.2 (sf_gV tw_763 tw_765 tw_21 tw_48 tw_766) rfl rfl rfl ⟨rfl, hd_X7_isCentre⟩ ⟨Nat.le_of_ble_eq_true rfl, Nat.le_of_ble_eq_true rfl⟩) rfl rfl (Nat.le_of_ble_eq_true rfl) dX7_centreSense_2 rfl ?_
      refine sf_if_ne (tgt := 10) X dX7_centreSense_5 rfl rfl (fun c4 => ?_) (fun c4 => ?_)
      · have h := sf_iff c4 h
        refine sf_aload_n (i := 0) (j := 0) X dX7_centreSense_10 rfl rfl rfl ?_
        refine sf_iload_n (i := 1) (j := 1) X dX7_centreSense_11 rfl rfl rfl ?_
        obtain ⟨r7, τ6, hR5, h⟩ := h
        refine sf_callVi (As := [.int u0]) (rest := []) (cv := (RX7, TX7, 23)) X rfl rfl (c_X7_points hq hR5) (cwV 1 X.1.2.2.2.2 (sf_gV tw_771 tw_773 tw_23 tw_48 tw_774) rfl rfl rfl ⟨rfl, hd_X7_points⟩ ⟨Nat.le_of_ble_eq_true rfl, Nat.le_of_ble_eq_true rfl⟩) rfl rfl (Nat.le_of_ble_eq_true rfl) dX7_centreSense_12 rfl ?_
        refine sf_iconst (v := 4) X dX7_centreSense_15 sf_ic_4 rfl ?_
        refine sf_icmp_ne (tgt := 57) X dX7_centreSense_16 rfl rfl (fun c8 => ?_) (fun c8 => ?_)
        · have h := sf_iff c8 h
          refine sf_aload_n (i := 0) (j := 0) X dX7_centreSense_57 rfl rfl rfl ?_
          refine sf_getR (C := RX7) (T := TX7) (N := 23) (ci := 7) (j := 21) (k' := 14) X (fun w h => sf_memc (inX7 w h)) rfl rfl (by decide) (X.1.2.2.2.2 _ (sf_memc tw_652)) (fun _ h9 => h9) rfl dX7_centreSense_58 rfl ?_
          refine sf_iconst (v := 4) X dX7_centreSense_61 sf_ic_4 rfl ?_
          refine sf_iald X rfl (sf_inD rfl) dX7_centreSense_62 rfl ?_
          refine sf_aload_n (i := 0) (j := 0) X dX7_centreSense_63 rfl rfl rfl ?_
          refine sf_getR (C := RX7) (T := TX7) (N := 23) (ci := 7) (j := 21) (k' := 14) X (fun w h => sf_memc (inX7 w h)) rfl rfl (by decide) (X.1.2.2.2.2 _ (sf_memc tw_652)) (fun _ h9 => h9) rfl dX7_centreSense_64 rfl ?_
          refine sf_bipush (v := 8) X dX7_centreSense_67 sf_bc_8 rfl ?_
          refine sf_iald X rfl (sf_inD rfl) dX7_centreSense_69 rfl ?_
          refine sf_imul X dX7_centreSense_70 rfl ?_
          refine sf_aload_n (i := 0) (j := 0) X dX7_centreSense_71 rfl rfl rfl ?_
          refine sf_getR (C := RX7) (T := TX7) (N := 23) (ci := 7) (j := 21) (k' := 14) X (fun w h => sf_memc (inX7 w h)) rfl rfl (by decide) (X.1.2.2.2.2 _ (sf_memc tw_652)) (fun _ h9 => h9) rfl dX7_centreSense_72 rfl ?_
          refine sf_iconst (v := 5) X dX7_centreSense_75 sf_ic_5 rfl ?_
          refine sf_iald X rfl (sf_inD rfl) dX7_centreSense_76 rfl ?_
          refine sf_aload_n (i := 0) (j := 0) X dX7_centreSense_77 rfl rfl rfl ?_
          refine sf_getR (C := RX7) (T := TX7) (N := 23) (ci := 7) (j := 21) (k' := 14) X (fun w h => sf_memc (inX7 w h)) rfl rfl (by decide) (X.1.2.2.2.2 _ (sf_memc tw_652)) (fun _ h9 => h9) rfl dX7_centreSense_78 rfl ?_
          refine sf_bipush (v := 7) X dX7_centreSense_81 sf_bc_7 rfl ?_
          refine sf_iald X rfl (sf_inD rfl) dX7_centreSense_83 rfl ?_
          refine sf_imul X dX7_centreSense_84 rfl ?_
          refine sf_isub X dX7_centreSense_85 rfl ?_
          refine sf_top (fun y9 hy9 => ?_)
          have h := h y9 hy9
          refine sf_istore_n (i := 2) (lv' := [(2, .int y9), (0, .ref (q 0)), (1, .int u0)]) X dX7_centreSense_86 rfl (by decide) rfl rfl ?_
          refine sf_aload_n (i := 0) (j := 1) X dX7_centreSense_87 rfl rfl rfl ?_
          refine sf_getR (C := RX7) (T := TX7) (N := 23) (ci := 7) (j := 21) (k' := 14) X (fun w h => sf_memc (inX7 w h)) rfl rfl (by decide) (X.1.2.2.2.2 _ (sf_memc tw_652)) (fun _ h9 => h9) rfl dX7_centreSense_88 rfl ?_
          refine sf_iconst (v := 3) X dX7_centreSense_91 sf_ic_3 rfl ?_
          refine sf_iald X rfl (sf_inD rfl) dX7_centreSense_92 rfl ?_
          refine sf_aload_n (i := 0) (j := 1) X dX7_centreSense_93 rfl rfl rfl ?_
          refine sf_getR (C := RX7) (T := TX7) (N := 23) (ci := 7) (j := 21) (k' := 14) X (fun w h => sf_memc (inX7 w h)) rfl rfl (by decide) (X.1.2.2.2.2 _ (sf_memc tw_652)) (fun _ h9 => h9) rfl dX7_centreSense_94 rfl ?_
          refine sf_bipush (v := 8) X dX7_centreSense_97 sf_bc_8 rfl ?_
          refine sf_iald X rfl (sf_inD rfl) dX7_centreSense_99 rfl ?_
          refine sf_imul X dX7_centreSense_100 rfl ?_
          refine sf_aload_n (i := 0) (j := 1) X dX7_centreSense_101 rfl rfl rfl ?_
          refine sf_getR (C := RX7) (T := TX7) (N := 23) (ci := 7) (j := 21) (k' := 14) X (fun w h => sf_memc (inX7 w h)) rfl rfl (by decide) (X.1.2.2.2.2 _ (sf_memc tw_652)) (fun _ h9 => h9) rfl dX7_centreSense_102 rfl ?_
          refine sf_iconst (v := 5) X dX7_centreSense_105 sf_ic_5 rfl ?_
          refine sf_iald X rfl (sf_inD rfl) dX7_centreSense_106 rfl ?_
          refine sf_aload_n (i := 0) (j := 1) X dX7_centreSense_107 rfl rfl rfl ?_
          refine sf_getR (C := RX7) (T := TX7) (N := 23) (ci := 7) (j := 21) (k' := 14) X (fun w h => sf_memc (inX7 w h)) rfl rfl (by decide) (X.1.2.2.2.2 _ (sf_memc tw_652)) (fun _ h9 => h9) rfl dX7_centreSense_108 rfl ?_
          refine sf_bipush (v := 6) X dX7_centreSense_111 sf_bc_6 rfl ?_
          refine sf_iald X rfl (sf_inD rfl) dX7_centreSense_113 rfl ?_
          refine sf_imul X dX7_centreSense_114 rfl ?_
          refine sf_isub X dX7_centreSense_115 rfl ?_
          refine sf_top (fun y10 hy10 => ?_)
          have h := h y10 hy10
          refine sf_istore_n (i := 3) (lv' := [(3, .int y10), (2, .int y9), (0, .ref (q 0)), (1, .int u0)]) X dX7_centreSense_116 rfl (by decide) rfl rfl ?_
          refine sf_aload_n (i := 0) (j := 2) X dX7_centreSense_117 rfl rfl rfl ?_
          refine sf_getR (C := RX7) (T := TX7) (N := 23) (ci := 7) (j := 21) (k' := 14) X (fun w h => sf_memc (inX7 w h)) rfl rfl (by decide) (X.1.2.2.2.2 _ (sf_memc tw_652)) (fun _ h9 => h9) rfl dX7_centreSense_118 rfl ?_
          refine sf_iconst (v := 3) X dX7_centreSense_121 sf_ic_3 rfl ?_
          refine sf_iald X rfl (sf_inD rfl) dX7_centreSense_122 rfl ?_
          refine sf_aload_n (i := 0) (j := 2) X dX7_centreSense_123 rfl rfl rfl ?_
          refine sf_getR (C := RX7) (T := TX7) (N := 23) (ci := 7) (j := 21) (k' := 14) X (fun w h => sf_memc (inX7 w h)) rfl rfl (by decide) (X.1.2.2.2.2 _ (sf_memc tw_652)) (fun _ h9 => h9) rfl dX7_centreSense_124 rfl ?_
          refine sf_bipush (v := 7) X dX7_centreSense_127 sf_bc_7 rfl ?_
          refine sf_iald X rfl (sf_inD rfl) dX7_centreSense_129 rfl ?_
          refine sf_imul X dX7_centreSense_130 rfl ?_
          refine sf_aload_n (i := 0) (j := 2) X dX7_centreSense_131 rfl rfl rfl ?_
          refine sf_getR (C := RX7) (T := TX7) (N := 23) (ci := 7) (j := 21) (k' := 14) X (fun w h => sf_memc (inX7 w h)) rfl rfl (by decide) (X.1.2.2.2.2 _ (sf_memc tw_652)) (fun _ h9 => h9) rfl dX7_centreSense_132 rfl ?_
          refine sf_iconst (v := 4) X dX7_centreSense_135 sf_ic_4 rfl ?_
          refine sf_iald X rfl (sf_inD rfl) dX7_centreSense_136 rfl ?_
          refine sf_aload_n (i := 0) (j := 2) X dX7_centreSense_137 rfl rfl rfl ?_
          refine sf_getR (C := RX7) (T := TX7) (N := 23) (ci := 7) (j := 21) (k' := 14) X (fun w h => sf_memc (inX7 w h)) rfl rfl (by decide) (X.1.2.2.2.2 _ (sf_memc tw_652)) (fun _ h9 => h9) rfl dX7_centreSense_138 rfl ?_
          refine sf_bipush (v := 6) X dX7_centreSense_141 sf_bc_6 rfl ?_
          refine sf_iald X rfl (sf_inD rfl) dX7_centreSense_143 rfl ?_
          refine sf_imul X dX7_centreSense_144 rfl ?_
          refine sf_isub X dX7_centreSense_145 rfl ?_
          refine sf_top (fun y11 hy11 => ?_)
          have h := h y11 hy11
          refine sf_istore (i := 4) (lv' := [(4, .int y11), (3, .int y10), (2, .int y9), (0, .ref (q 0)), (1, .int u0)]) X dX7_centreSense_146 (by decide) rfl rfl ?_
          refine sf_aload_n (i := 0) (j := 3) X dX7_centreSense_148 rfl rfl rfl ?_
          refine sf_getR (C := RX7) (T := TX7) (N := 23) (ci := 7) (j := 21) (k' := 14) X (fun w h => sf_memc (inX7 w h)) rfl rfl (by decide) (X.1.2.2.2.2 _ (sf_memc tw_652)) (fun _ h9 => h9) rfl dX7_centreSense_149 rfl ?_
          refine sf_iconst (v := 0) X dX7_centreSense_152 sf_ic_0 rfl ?_
          refine sf_iald X rfl (sf_inD rfl) dX7_centreSense_153 rfl ?_
          refine sf_iload_n (i := 2) (j := 2) X dX7_centreSense_154 rfl rfl rfl ?_
          refine sf_imul X dX7_centreSense_155 rfl ?_
          refine sf_aload_n (i := 0) (j := 3) X dX7_centreSense_156 rfl rfl rfl ?_
          refine sf_getR (C := RX7) (T := TX7) (N := 23) (ci := 7) (j := 21) (k' := 14) X (fun w h => sf_memc (inX7 w h)) rfl rfl (by decide) (X.1.2.2.2.2 _ (sf_memc tw_652)) (fun _ h9 => h9) rfl dX7_centreSense_157 rfl ?_
          refine sf_iconst (v := 1) X dX7_centreSense_160 sf_ic_1 rfl ?_
          refine sf_iald X rfl (sf_inD rfl) dX7_centreSense_161 rfl ?_
          refine sf_iload_n (i := 3) (j := 1) X dX7_centreSense_162 rfl rfl rfl ?_
          refine sf_imul X dX7_centreSense_163 rfl ?_
          refine sf_isub X dX7_centreSense_164 rfl ?_
          refine sf_aload_n (i := 0) (j := 3) X dX7_centreSense_165 rfl rfl rfl ?_
          refine sf_getR (C := RX7) (T := TX7) (N := 23) (ci := 7) (j := 21) (k' := 14) X (fun w h => sf_memc (inX7 w h)) rfl rfl (by decide) (X.1.2.2.2.2 _ (sf_memc tw_652)) (fun _ h9 => h9) rfl dX7_centreSense_166 rfl ?_
          refine sf_iconst (v := 2) X dX7_centreSense_169 sf_ic_2 rfl ?_
          refine sf_iald X rfl (sf_inD rfl) dX7_centreSense_170 rfl ?_
          refine sf_iload (i := 4) (j := 0) X dX7_centreSense_171 rfl rfl ?_
          refine sf_imul X dX7_centreSense_173 rfl ?_
          refine sf_iadd X dX7_centreSense_174 rfl ?_
          obtain ⟨r14, τ13, hR12, h⟩ := h
          refine sf_callSi (As := [.int ((((τ6 14 (sf_ix (0 : Int32))) * y9) - ((τ6 14 (sf_ix (1 : Int32))) * y10)) + ((τ6 14 (sf_ix (2 : Int32))) * y11))]) (rest := []) X (c_X7_sign hq hR12) (va_cwS 1 X.1.2.2.2.2 (sf_gS tw_775 tw_776 tw_48 tw_777) rfl rfl rfl hd_X7_sign ⟨Nat.le_of_ble_eq_true rfl, Nat.le_of_ble_eq_true rfl⟩) rfl rfl (Nat.le_of_ble_eq_true rfl) dX7_centreSense_175 rfl ?_
          exact sf_reti X h dX7_centreSense_178
        · have h := sf_ift c8 h
          refine sf_iconst (v := 0) X dX7_centreSense_19 sf_ic_0 rfl ?_
          refine sf_istore_n (i := 2) (lv' := [(2, .int (0 : Int32)), (0, .ref (q 0)), (1, .int u0)]) X dX7_centreSense_20 rfl (by decide) rfl rfl ?_
          refine sf_loc (lv' := [(0, .ref (q 0)), (1, .int u0), (2, .int (0 : Int32))]) [1, 2, 0] rfl ?_
          exact h
      · have h := sf_ift c4 h
        refine sf_iconst (v := 0) X dX7_centreSense_8 sf_ic_0 rfl ?_
        exact sf_reti X h dX7_centreSense_9
  | 1, h =>
      replace h := fe_R_X7_centreSense_1 h
      unfold tr_R_X7_centreSense_1 at h
      show sf_G p l e (headSpec wsX7_centreSense ({ frames := 2, cells := 0, slots := 0, locals := 48 })).room s m args below meth c (sf_Qi D vwCl q dA KM sf_EM below args s r τ) 5 D vwCl q dA KM σ 21 [(0, .ref (q 0)), (1, .int u0), (2, .int u1)] []
      refine sf_iload_n (i := 2) (j := 2) X dX7_centreSense_21 rfl rfl rfl ?_
      refine sf_bipush (v := 9) X dX7_centreSense_22 sf_bc_9 rfl ?_
      refine sf_icmp_ge (tgt := 57) X dX7_centreSense_24 rfl rfl (fun c15 => ?_) (fun c15 => ?_)
      · have h := sf_ift c15 h
        refine sf_aload_n (i := 0) (j := 0) X dX7_centreSense_57 rfl rfl rfl ?_
        refine sf_getR (C := RX7) (T := TX7) (N := 23) (ci := 7) (j := 21) (k' := 14) X (fun w h => sf_memc (inX7 w h)) rfl rfl (by decide) (X.1.2.2.2.2 _ (sf_memc tw_652)) (fun _ h9 => h9) rfl dX7_centreSense_58 rfl ?_
        refine sf_iconst (v := 4) X dX7_centreSense_61 sf_ic_4 rfl ?_
        refine sf_iald X rfl (sf_inD rfl) dX7_centreSense_62 rfl ?_
        refine sf_aload_n (i := 0) (j := 0) X dX7_centreSense_63 rfl rfl rfl ?_
        refine sf_getR (C := RX7) (T := TX7) (N := 23) (ci := 7) (j := 21) (k' := 14) X (fun w h => sf_memc (inX7 w h)) rfl rfl (by decide) (X.1.2.2.2.2 _ (sf_memc tw_652)) (fun _ h9 => h9) rfl dX7_centreSense_64 rfl ?_
        refine sf_bipush (v := 8) X dX7_centreSense_67 sf_bc_8 rfl ?_
        refine sf_iald X rfl (sf_inD rfl) dX7_centreSense_69 rfl ?_
        refine sf_imul X dX7_centreSense_70 rfl ?_
        refine sf_aload_n (i := 0) (j := 0) X dX7_centreSense_71 rfl rfl rfl ?_
        refine sf_getR (C := RX7) (T := TX7) (N := 23) (ci := 7) (j := 21) (k' := 14) X (fun w h => sf_memc (inX7 w h)) rfl rfl (by decide) (X.1.2.2.2.2 _ (sf_memc tw_652)) (fun _ h9 => h9) rfl dX7_centreSense_72 rfl ?_
        refine sf_iconst (v := 5) X dX7_centreSense_75 sf_ic_5 rfl ?_
        refine sf_iald X rfl (sf_inD rfl) dX7_centreSense_76 rfl ?_
        refine sf_aload_n (i := 0) (j := 0) X dX7_centreSense_77 rfl rfl rfl ?_
        refine sf_getR (C := RX7) (T := TX7) (N := 23) (ci := 7) (j := 21) (k' := 14) X (fun w h => sf_memc (inX7 w h)) rfl rfl (by decide) (X.1.2.2.2.2 _ (sf_memc tw_652)) (fun _ h9 => h9) rfl dX7_centreSense_78 rfl ?_
        refine sf_bipush (v := 7) X dX7_centreSense_81 sf_bc_7 rfl ?_
        refine sf_iald X rfl (sf_inD rfl) dX7_centreSense_83 rfl ?_
        refine sf_imul X dX7_centreSense_84 rfl ?_
        refine sf_isub X dX7_centreSense_85 rfl ?_
        refine sf_top (fun y16 hy16 => ?_)
        have h := h y16 hy16
        refine sf_istore_n (i := 2) (lv' := [(2, .int y16), (0, .ref (q 0)), (1, .int u0)]) X dX7_centreSense_86 rfl (by decide) rfl rfl ?_
        refine sf_aload_n (i := 0) (j := 1) X dX7_centreSense_87 rfl rfl rfl ?_
        refine sf_getR (C := RX7) (T := TX7) (N := 23) (ci := 7) (j := 21) (k' := 14) X (fun w h => sf_memc (inX7 w h)) rfl rfl (by decide) (X.1.2.2.2.2 _ (sf_memc tw_652)) (fun _ h9 => h9) rfl dX7_centreSense_88 rfl ?_
        refine sf_iconst (v := 3) X dX7_centreSense_91 sf_ic_3 rfl ?_
        refine sf_iald X rfl (sf_inD rfl) dX7_centreSense_92 rfl ?_
        refine sf_aload_n (i := 0) (j := 1) X dX7_centreSense_93 rfl rfl rfl ?_
        refine sf_getR (C := RX7) (T := TX7) (N := 23) (ci := 7) (j := 21) (k' := 14) X (fun w h => sf_memc (inX7 w h)) rfl rfl (by decide) (X.1.2.2.2.2 _ (sf_memc tw_652)) (fun _ h9 => h9) rfl dX7_centreSense_94 rfl ?_
        refine sf_bipush (v := 8) X dX7_centreSense_97 sf_bc_8 rfl ?_
        refine sf_iald X rfl (sf_inD rfl) dX7_centreSense_99 rfl ?_
        refine sf_imul X dX7_centreSense_100 rfl ?_
        refine sf_aload_n (i := 0) (j := 1) X dX7_centreSense_101 rfl rfl rfl ?_
        refine sf_getR (C := RX7) (T := TX7) (N := 23) (ci := 7) (j := 21) (k' := 14) X (fun w h => sf_memc (inX7 w h)) rfl rfl (by decide) (X.1.2.2.2.2 _ (sf_memc tw_652)) (fun _ h9 => h9) rfl dX7_centreSense_102 rfl ?_
        refine sf_iconst (v := 5) X dX7_centreSense_105 sf_ic_5 rfl ?_
        refine sf_iald X rfl (sf_inD rfl) dX7_centreSense_106 rfl ?_
        refine sf_aload_n (i := 0) (j := 1) X dX7_centreSense_107 rfl rfl rfl ?_
        refine sf_getR (C := RX7) (T := TX7) (N := 23) (ci := 7) (j := 21) (k' := 14) X (fun w h => sf_memc (inX7 w h)) rfl rfl (by decide) (X.1.2.2.2.2 _ (sf_memc tw_652)) (fun _ h9 => h9) rfl dX7_centreSense_108 rfl ?_
        refine sf_bipush (v := 6) X dX7_centreSense_111 sf_bc_6 rfl ?_
        refine sf_iald X rfl (sf_inD rfl) dX7_centreSense_113 rfl ?_
        refine sf_imul X dX7_centreSense_114 rfl ?_
        refine sf_isub X dX7_centreSense_115 rfl ?_
        refine sf_top (fun y17 hy17 => ?_)
        have h := h y17 hy17
        refine sf_istore_n (i := 3) (lv' := [(3, .int y17), (2, .int y16), (0, .ref (q 0)), (1, .int u0)]) X dX7_centreSense_116 rfl (by decide) rfl rfl ?_
        refine sf_aload_n (i := 0) (j := 2) X dX7_centreSense_117 rfl rfl rfl ?_
        refine sf_getR (C := RX7) (T := TX7) (N := 23) (ci := 7) (j := 21) (k' := 14) X (fun w h => sf_memc (inX7 w h)) rfl rfl (by decide) (X.1.2.2.2.2 _ (sf_memc tw_652)) (fun _ h9 => h9) rfl dX7_centreSense_118 rfl ?_
        refine sf_iconst (v := 3) X dX7_centreSense_121 sf_ic_3 rfl ?_
        refine sf_iald X rfl (sf_inD rfl) dX7_centreSense_122 rfl ?_
        refine sf_aload_n (i := 0) (j := 2) X dX7_centreSense_123 rfl rfl rfl ?_
        refine sf_getR (C := RX7) (T := TX7) (N := 23) (ci := 7) (j := 21) (k' := 14) X (fun w h => sf_memc (inX7 w h)) rfl rfl (by decide) (X.1.2.2.2.2 _ (sf_memc tw_652)) (fun _ h9 => h9) rfl dX7_centreSense_124 rfl ?_
        refine sf_bipush (v := 7) X dX7_centreSense_127 sf_bc_7 rfl ?_
        refine sf_iald X rfl (sf_inD rfl) dX7_centreSense_129 rfl ?_
        refine sf_imul X dX7_centreSense_130 rfl ?_
        refine sf_aload_n (i := 0) (j := 2) X dX7_centreSense_131 rfl rfl rfl ?_
        refine sf_getR (C := RX7) (T := TX7) (N := 23) (ci := 7) (j := 21) (k' := 14) X (fun w h => sf_memc (inX7 w h)) rfl rfl (by decide) (X.1.2.2.2.2 _ (sf_memc tw_652)) (fun _ h9 => h9) rfl dX7_centreSense_132 rfl ?_
        refine sf_iconst (v := 4) X dX7_centreSense_135 sf_ic_4 rfl ?_
        refine sf_iald X rfl (sf_inD rfl) dX7_centreSense_136 rfl ?_
        refine sf_aload_n (i := 0) (j := 2) X dX7_centreSense_137 rfl rfl rfl ?_
        refine sf_getR (C := RX7) (T := TX7) (N := 23) (ci := 7) (j := 21) (k' := 14) X (fun w h => sf_memc (inX7 w h)) rfl rfl (by decide) (X.1.2.2.2.2 _ (sf_memc tw_652)) (fun _ h9 => h9) rfl dX7_centreSense_138 rfl ?_
        refine sf_bipush (v := 6) X dX7_centreSense_141 sf_bc_6 rfl ?_
        refine sf_iald X rfl (sf_inD rfl) dX7_centreSense_143 rfl ?_
        refine sf_imul X dX7_centreSense_144 rfl ?_
        refine sf_isub X dX7_centreSense_145 rfl ?_
        refine sf_top (fun y18 hy18 => ?_)
        have h := h y18 hy18
        refine sf_istore (i := 4) (lv' := [(4, .int y18), (3, .int y17), (2, .int y16), (0, .ref (q 0)), (1, .int u0)]) X dX7_centreSense_146 (by decide) rfl rfl ?_
        refine sf_aload_n (i := 0) (j := 3) X dX7_centreSense_148 rfl rfl rfl ?_
        refine sf_getR (C := RX7) (T := TX7) (N := 23) (ci := 7) (j := 21) (k' := 14) X (fun w h => sf_memc (inX7 w h)) rfl rfl (by decide) (X.1.2.2.2.2 _ (sf_memc tw_652)) (fun _ h9 => h9) rfl dX7_centreSense_149 rfl ?_
        refine sf_iconst (v := 0) X dX7_centreSense_152 sf_ic_0 rfl ?_
        refine sf_iald X rfl (sf_inD rfl) dX7_centreSense_153 rfl ?_
        refine sf_iload_n (i := 2) (j := 2) X dX7_centreSense_154 rfl rfl rfl ?_
        refine sf_imul X dX7_centreSense_155 rfl ?_
        refine sf_aload_n (i := 0) (j := 3) X dX7_centreSense_156 rfl rfl rfl ?_
        refine sf_getR (C := RX7) (T := TX7) (N := 23) (ci := 7) (j := 21) (k' := 14) X (fun w h => sf_memc (inX7 w h)) rfl rfl (by decide) (X.1.2.2.2.2 _ (sf_memc tw_652)) (fun _ h9 => h9) rfl dX7_centreSense_157 rfl ?_
        refine sf_iconst (v := 1) X dX7_centreSense_160 sf_ic_1 rfl ?_
        refine sf_iald X rfl (sf_inD rfl) dX7_centreSense_161 rfl ?_
        refine sf_iload_n (i := 3) (j := 1) X dX7_centreSense_162 rfl rfl rfl ?_
        refine sf_imul X dX7_centreSense_163 rfl ?_
        refine sf_isub X dX7_centreSense_164 rfl ?_
        refine sf_aload_n (i := 0) (j := 3) X dX7_centreSense_165 rfl rfl rfl ?_
        refine sf_getR (C := RX7) (T := TX7) (N := 23) (ci := 7) (j := 21) (k' := 14) X (fun w h => sf_memc (inX7 w h)) rfl rfl (by decide) (X.1.2.2.2.2 _ (sf_memc tw_652)) (fun _ h9 => h9) rfl dX7_centreSense_166 rfl ?_
        refine sf_iconst (v := 2) X dX7_centreSense_169 sf_ic_2 rfl ?_
        refine sf_iald X rfl (sf_inD rfl) dX7_centreSense_170 rfl ?_
        refine sf_iload (i := 4) (j := 0) X dX7_centreSense_171 rfl rfl ?_
        refine sf_imul X dX7_centreSense_173 rfl ?_
        refine sf_iadd X dX7_centreSense_174 rfl ?_
        obtain ⟨r21, τ20, hR19, h⟩ := h
        refine sf_callSi (As := [.int ((((σ 14 (sf_ix (0 : Int32))) * y16) - ((σ 14 (sf_ix (1 : Int32))) * y17)) + ((σ 14 (sf_ix (2 : Int32))) * y18))]) (rest := []) X (c_X7_sign hq hR19) (va_cwS 1 X.1.2.2.2.2 (sf_gS tw_775 tw_776 tw_48 tw_777) rfl rfl rfl hd_X7_sign ⟨Nat.le_of_ble_eq_true rfl, Nat.le_of_ble_eq_true rfl⟩) rfl rfl (Nat.le_of_ble_eq_true rfl) dX7_centreSense_175 rfl ?_
        exact sf_reti X h dX7_centreSense_178
      · have h := sf_iff c15 h
        refine sf_aload_n (i := 0) (j := 0) X dX7_centreSense_27 rfl rfl rfl ?_
        refine sf_getR (C := RX7) (T := TX7) (N := 23) (ci := 7) (j := 21) (k' := 14) X (fun w h => sf_memc (inX7 w h)) rfl rfl (by decide) (X.1.2.2.2.2 _ (sf_memc tw_652)) (fun _ h9 => h9) rfl dX7_centreSense_28 rfl ?_
        refine sf_iload_n (i := 2) (j := 2) X dX7_centreSense_31 rfl rfl rfl ?_
        refine sf_aload_n (i := 0) (j := 0) X dX7_centreSense_32 rfl rfl rfl ?_
        refine sf_getR (C := RX7) (T := TX7) (N := 23) (ci := 7) (j := 21) (k' := 14) X (fun w h => sf_memc (inX7 w h)) rfl rfl (by decide) (X.1.2.2.2.2 _ (sf_memc tw_652)) (fun _ h9 => h9) rfl dX7_centreSense_33 rfl ?_
        refine sf_iload_n (i := 2) (j := 2) X dX7_centreSense_36 rfl rfl rfl ?_
        obtain ⟨b22, h⟩ := h
        refine sf_iald X rfl b22 dX7_centreSense_37 rfl ?_
        refine sf_aload_n (i := 0) (j := 0) X dX7_centreSense_38 rfl rfl rfl ?_
        refine sf_getR (C := RX7) (T := TX7) (N := 23) (ci := 7) (j := 21) (k' := 14) X (fun w h => sf_memc (inX7 w h)) rfl rfl (by decide) (X.1.2.2.2.2 _ (sf_memc tw_652)) (fun _ h9 => h9) rfl dX7_centreSense_39 rfl ?_
        refine sf_bipush (v := 9) X dX7_centreSense_42 sf_bc_9 rfl ?_
        refine sf_iload_n (i := 2) (j := 2) X dX7_centreSense_44 rfl rfl rfl ?_
        refine sf_iconst (v := 3) X dX7_centreSense_45 sf_ic_3 rfl ?_
        refine sf_irem X dX7_centreSense_46 (by decide) rfl ?_
        refine sf_iadd X dX7_centreSense_47 rfl ?_
        obtain ⟨b23, h⟩ := h
        refine sf_iald X rfl b23 dX7_centreSense_48 rfl ?_
        refine sf_isub X dX7_centreSense_49 rfl ?_
        obtain ⟨b24, h⟩ := h
        refine sf_iast X rfl b24 dX7_centreSense_50 rfl (fun τ25 hτ25 => ?_)
        have h := h τ25 hτ25
        refine sf_iinc (i := 2) (j := 2) (d := 1) (lv' := fun y26 => [(2, .int y26), (0, .ref (q 0)), (1, .int u0)]) X dX7_centreSense_51 rfl sf_ic_1 (by decide) (fun _ => rfl) rfl (fun y26 hy26 => ?_)
        have h := h y26 hy26
        refine sf_goto (tgt := 21) X dX7_centreSense_54 rfl ?_
        refine sf_loc (lv' := [(0, .ref (q 0)), (1, .int u0), (2, .int y26)]) [1, 2, 0] rfl ?_
        exact h
  | (_ + 2), _ => exact trivial
def R_X7_sense (σ : sf_St) (u0 : Int32) (r : Int32) (τ : sf_St) : Prop :=
  ∃ (r3 : Int32) (τ2 : sf_St), R_X7_isAtom σ u0 r3 τ2 ∧ (if r3 = (0 : Int32) then (r = (-1 : Int32) ∧ τ = τ2) else (∃ τ6 : sf_St, R_X7_ownNumbers τ2 τ6 ∧ (∃ (r9 : Int32) (τ8 : sf_St), R_X7_centreSense τ6 u0 r9 τ8 ∧ (∃ (r12 : Int32) (τ11 : sf_St), R_X7_isCentre τ8 u0 r12 τ11 ∧ (if r12 = (0 : Int32) then (r = ((r9 + (1 : Int32)) + (0 : Int32)) ∧ τ = τ11) else (r = ((r9 + (1 : Int32)) + (4 : Int32)) ∧ τ = τ11))))))
set_option maxHeartbeats 4000000 in
set_option maxRecDepth 100000 in
theorem c_X7_sense {l : Launch} {D : va_G} {q : Nat → Nat} {dA : Nat → ClassId}  (hq : sf_inj q KM) {σ τ : sf_St} {u0 : Int32} {r : Int32} (h : R_X7_sense σ u0 r τ) : sf_Mi l yX7_sense wsX7_sense ({ frames := 3, cells := 0, slots := 0, locals := 72 }) D vwCl q dA KM sf_EM [.ref (q 0), .int u0] σ r τ := by
  refine sf_meti (cc := cX7_sense) (maxL := 2) (ret := (some .int)) (own := RX7) (by decide +kernel) rfl rfl hq sf_EMk (Nat.le_of_ble_eq_true rfl) ?_
  intro p e s m args below meth c X
  unfold R_X7_sense at h
  refine sf_loc (lv' := [(0, .ref (q 0)), (1, .int u0)]) [0, 1] rfl ?_
  refine sf_aload_n (i := 0) (j := 0) X dX7_sense_0 rfl rfl rfl ?_
  refine sf_iload_n (i := 1) (j := 1) X dX7_sense_1 rfl rfl rfl ?_
  obtain ⟨r3, τ2, hR1, h⟩ := h
  refine sf_callVi (As := [.int u0]) (rest := []) (cv := (RX7, TX7, 23)) X rfl rfl (c_X7_isAtom hq hR1) (cwV 1 X.1.2.2.2.2 (sf_gV tw_712 tw_714 tw_15 tw_48 tw_715) rfl rfl rfl ⟨rfl, hd_X7_isAtom⟩ ⟨Nat.le_of_ble_eq_true rfl, Nat.le_of_ble_eq_true rfl⟩) rfl rfl (Nat.le_of_ble_eq_true rfl) dX7_sense_2 rfl ?_
  refine sf_if_ne (tgt := 10) X dX7_sense_5 rfl rfl (fun c4 => ?_) (fun c4 => ?_)
  · have h := sf_iff c4 h
    refine sf_aload_n (i := 0) (j := 0) X dX7_sense_10 rfl rfl rfl ?_
    obtain ⟨τ6, hR5, h⟩ := h
    refine sf_callVv (As := []) (rest := []) (cv := (RX7, TX7, 23)) X rfl rfl (c_X7_ownNumbers hq hR5) (cwV 0 X.1.2.2.2.2 (sf_gV tw_755 tw_757 tw_19 tw_48 tw_758) rfl rfl rfl ⟨rfl, hd_X7_ownNumbers⟩ ⟨Nat.le_of_ble_eq_true rfl, Nat.le_of_ble_eq_true rfl⟩) rfl rfl (Nat.le_of_ble_eq_true rfl) dX7_sense_11 rfl ?_
    refine sf_aload_n (i := 0) (j := 0) X dX7_sense_14 rfl rfl rfl ?_
    refine sf_iload_n (i := 1) (j := 1) X dX7_sense_15 rfl rfl rfl ?_
    obtain ⟨r9, τ8, hR7, h⟩ := h
    refine sf_callVi (As := [.int u0]) (rest := []) (cv := (RX7, TX7, 23)) X rfl rfl (c_X7_centreSense hq hR7) (cwV 1 X.1.2.2.2.2 (sf_gV tw_759 tw_761 tw_20 tw_48 tw_762) rfl rfl rfl ⟨rfl, hd_X7_centreSense⟩ ⟨Nat.le_of_ble_eq_true rfl, Nat.le_of_ble_eq_true rfl⟩) rfl rfl (Nat.le_of_ble_eq_true rfl) dX7_sense_16 rfl ?_
    refine sf_iconst (v := 1) X dX7_sense_19 sf_ic_1 rfl ?_
    refine sf_iadd X dX7_sense_20 rfl ?_
    refine sf_aload_n (i := 0) (j := 0) X dX7_sense_21 rfl rfl rfl ?_
    refine sf_iload_n (i := 1) (j := 1) X dX7_sense_22 rfl rfl rfl ?_
    obtain ⟨r12, τ11, hR10, h⟩ := h
    refine sf_callVi (As := [.int u0]) (rest := [.int (r9 + (1 : Int32))]) (cv := (RX7, TX7, 23)) X rfl rfl (c_X7_isCentre hq hR10) (cwV 1 X.1.2.2.2.2 (sf_gV tw_763 tw_765 tw_21 tw_48 tw_766) rfl rfl rfl ⟨rfl, hd_X7_isCentre⟩ ⟨Nat.le_of_ble_eq_true rfl, Nat.le_of_ble_eq_true rfl⟩) rfl rfl (Nat.le_of_ble_eq_true rfl) dX7_sense_23 rfl ?_
    refine sf_if_eq (tgt := 33) X dX7_sense_26 rfl rfl (fun c13 => ?_) (fun c13 => ?_)
    · have h := sf_ift c13 h
      refine sf_iconst (v := 0) X dX7_sense_33 sf_ic_0 rfl ?_
      refine sf_iadd X dX7_sense_34 rfl ?_
      exact sf_reti X h dX7_sense_35
    · have h := sf_iff c13 h
      refine sf_iconst (v := 4) X dX7_sense_29 sf_ic_4 rfl ?_
      refine sf_goto (tgt := 34) X dX7_sense_30 rfl ?_
      refine sf_iadd X dX7_sense_34 rfl ?_
      exact sf_reti X h dX7_sense_35
  · have h := sf_ift c4 h
    refine sf_iconst (v := (-1)) X dX7_sense_8 sf_ic_m1 rfl ?_
    exact sf_reti X h dX7_sense_9
def R_X7_isHinge (σ : sf_St) (u0 : Int32) (r : Int32) (τ : sf_St) : Prop :=
  vp_in u0 9 ∧ (vp_in (σ 4 (sf_ix u0)) 7 ∧ (if (1 : Int32) < (σ 1 (sf_ix (σ 4 (sf_ix u0)))) then (vp_in u0 9 ∧ (∃ (r7 : Int32) (τ6 : sf_St), R_X7_singles σ (σ 4 (sf_ix u0)) u0 r7 τ6 ∧ (vp_in u0 9 ∧ (∃ (r11 : Int32) (τ10 : sf_St), R_X7_singles τ6 (τ6 5 (sf_ix u0)) u0 r11 τ10 ∧ (vp_in u0 9 ∧ (if (τ10 6 (sf_ix u0)) = (2 : Int32) then (if (0 : Int32) = (0 : Int32) then (r = (0 : Int32) ∧ τ = τ10) else (if r7 < (1 : Int32) then (r = (0 : Int32) ∧ τ = τ10) else (if (2 : Int32) < r7 then (r = (0 : Int32) ∧ τ = τ10) else (if r11 < (1 : Int32) then (r = (0 : Int32) ∧ τ = τ10) else (if (2 : Int32) < r11 then (r = (0 : Int32) ∧ τ = τ10) else (r = (1 : Int32) ∧ τ = τ10)))))) else (r = (0 : Int32) ∧ τ = τ10))))))) else (vp_in u0 9 ∧ (vp_in (σ 5 (sf_ix u0)) 7 ∧ (if (1 : Int32) < (σ 1 (sf_ix (σ 5 (sf_ix u0)))) then (vp_in u0 9 ∧ (∃ (r25 : Int32) (τ24 : sf_St), R_X7_singles σ (σ 4 (sf_ix u0)) u0 r25 τ24 ∧ (vp_in u0 9 ∧ (∃ (r29 : Int32) (τ28 : sf_St), R_X7_singles τ24 (τ24 5 (sf_ix u0)) u0 r29 τ28 ∧ (vp_in u0 9 ∧ (if (τ28 6 (sf_ix u0)) = (2 : Int32) then (if (0 : Int32) = (0 : Int32) then (r = (0 : Int32) ∧ τ = τ28) else (if r25 < (1 : Int32) then (r = (0 : Int32) ∧ τ = τ28) else (if (2 : Int32) < r25 then (r = (0 : Int32) ∧ τ = τ28) else (if r29 < (1 : Int32) then (r = (0 : Int32) ∧ τ = τ28) else (if (2 : Int32) < r29 then (r = (0 : Int32) ∧ τ = τ28) else (r = (1 : Int32) ∧ τ = τ28)))))) else (r = (0 : Int32) ∧ τ = τ28))))))) else (vp_in u0 9 ∧ (∃ (r40 : Int32) (τ39 : sf_St), R_X7_singles σ (σ 4 (sf_ix u0)) u0 r40 τ39 ∧ (vp_in u0 9 ∧ (∃ (r44 : Int32) (τ43 : sf_St), R_X7_singles τ39 (τ39 5 (sf_ix u0)) u0 r44 τ43 ∧ (vp_in u0 9 ∧ (if (τ43 6 (sf_ix u0)) = (2 : Int32) then (if (1 : Int32) = (0 : Int32) then (r = (0 : Int32) ∧ τ = τ43) else (if r40 < (1 : Int32) then (r = (0 : Int32) ∧ τ = τ43) else (if (2 : Int32) < r40 then (r = (0 : Int32) ∧ τ = τ43) else (if r44 < (1 : Int32) then (r = (0 : Int32) ∧ τ = τ43) else (if (2 : Int32) < r44 then (r = (0 : Int32) ∧ τ = τ43) else (r = (1 : Int32) ∧ τ = τ43)))))) else (r = (0 : Int32) ∧ τ = τ43))))))))))))
set_option maxHeartbeats 4000000 in
set_option maxRecDepth 100000 in
theorem c_X7_isHinge {l : Launch} {D : va_G} {q : Nat → Nat} {dA : Nat → ClassId}  (hq : sf_inj q KM) {σ τ : sf_St} {u0 : Int32} {r : Int32} (h : R_X7_isHinge σ u0 r τ) : sf_Mi l yX7_isHinge wsX7_isHinge ({ frames := 1, cells := 0, slots := 0, locals := 25 }) D vwCl q dA KM sf_EM [.ref (q 0), .int u0] σ r τ := by
  refine sf_meti (cc := cX7_isHinge) (maxL := 5) (ret := (some .boolean)) (own := RX7) (by decide +kernel) rfl rfl hq sf_EMk (Nat.le_of_ble_eq_true rfl) ?_
  intro p e s m args below meth c X
  unfold R_X7_isHinge at h
  refine sf_loc (lv' := [(0, .ref (q 0)), (1, .int u0)]) [0, 1] rfl ?_
  refine sf_aload_n (i := 0) (j := 0) X dX7_isHinge_0 rfl rfl rfl ?_
  refine sf_getR (C := RX7) (T := TX7) (N := 23) (ci := 7) (j := 1) (k' := 1) X (fun w h => sf_memc (inX7 w h)) rfl rfl (by decide) (X.1.2.2.2.2 _ (sf_memc tw_632)) (fun _ h9 => h9) rfl dX7_isHinge_1 rfl ?_
  refine sf_aload_n (i := 0) (j := 0) X dX7_isHinge_4 rfl rfl rfl ?_
  refine sf_getR (C := RX7) (T := TX7) (N := 23) (ci := 7) (j := 5) (k' := 4) X (fun w h => sf_memc (inX7 w h)) rfl rfl (by decide) (X.1.2.2.2.2 _ (sf_memc tw_636)) (fun _ h9 => h9) rfl dX7_isHinge_5 rfl ?_
  refine sf_iload_n (i := 1) (j := 1) X dX7_isHinge_8 rfl rfl rfl ?_
  obtain ⟨b1, h⟩ := h
  refine sf_iald X rfl b1 dX7_isHinge_9 rfl ?_
  obtain ⟨b2, h⟩ := h
  refine sf_iald X rfl b2 dX7_isHinge_10 rfl ?_
  refine sf_iconst (v := 1) X dX7_isHinge_11 sf_ic_1 rfl ?_
  refine sf_icmp_gt (tgt := 34) X dX7_isHinge_12 rfl rfl (fun c3 => ?_) (fun c3 => ?_)
  · have h := sf_ift c3 h
    refine sf_iconst (v := 0) X dX7_isHinge_34 sf_ic_0 rfl ?_
    refine sf_istore_n (i := 2) (lv' := [(2, .int (0 : Int32)), (0, .ref (q 0)), (1, .int u0)]) X dX7_isHinge_35 rfl (by decide) rfl rfl ?_
    refine sf_aload_n (i := 0) (j := 1) X dX7_isHinge_36 rfl rfl rfl ?_
    refine sf_aload_n (i := 0) (j := 1) X dX7_isHinge_37 rfl rfl rfl ?_
    refine sf_getR (C := RX7) (T := TX7) (N := 23) (ci := 7) (j := 5) (k' := 4) X (fun w h => sf_memc (inX7 w h)) rfl rfl (by decide) (X.1.2.2.2.2 _ (sf_memc tw_636)) (fun _ h9 => h9) rfl dX7_isHinge_38 rfl ?_
    refine sf_iload_n (i := 1) (j := 2) X dX7_isHinge_41 rfl rfl rfl ?_
    obtain ⟨b4, h⟩ := h
    refine sf_iald X rfl b4 dX7_isHinge_42 rfl ?_
    refine sf_iload_n (i := 1) (j := 2) X dX7_isHinge_43 rfl rfl rfl ?_
    obtain ⟨r7, τ6, hR5, h⟩ := h
    refine sf_callVi (As := [.int (σ 4 (sf_ix u0)), .int u0]) (rest := []) (cv := (RX7, TX7, 23)) X rfl rfl (c_X7_singles hq hR5) (cwV 2 X.1.2.2.2.2 (sf_gV tw_767 tw_769 tw_22 tw_48 tw_770) rfl rfl rfl ⟨rfl, hd_X7_singles⟩ ⟨Nat.le_of_ble_eq_true rfl, Nat.le_of_ble_eq_true rfl⟩) rfl rfl (Nat.le_of_ble_eq_true rfl) dX7_isHinge_44 rfl ?_
    refine sf_istore_n (i := 3) (lv' := [(3, .int r7), (2, .int (0 : Int32)), (0, .ref (q 0)), (1, .int u0)]) X dX7_isHinge_47 rfl (by decide) rfl rfl ?_
    refine sf_aload_n (i := 0) (j := 2) X dX7_isHinge_48 rfl rfl rfl ?_
    refine sf_aload_n (i := 0) (j := 2) X dX7_isHinge_49 rfl rfl rfl ?_
    refine sf_getR (C := RX7) (T := TX7) (N := 23) (ci := 7) (j := 6) (k' := 5) X (fun w h => sf_memc (inX7 w h)) rfl rfl (by decide) (X.1.2.2.2.2 _ (sf_memc tw_637)) (fun _ h9 => h9) rfl dX7_isHinge_50 rfl ?_
    refine sf_iload_n (i := 1) (j := 3) X dX7_isHinge_53 rfl rfl rfl ?_
    obtain ⟨b8, h⟩ := h
    refine sf_iald X rfl b8 dX7_isHinge_54 rfl ?_
    refine sf_iload_n (i := 1) (j := 3) X dX7_isHinge_55 rfl rfl rfl ?_
    obtain ⟨r11, τ10, hR9, h⟩ := h
    refine sf_callVi (As := [.int (τ6 5 (sf_ix u0)), .int u0]) (rest := []) (cv := (RX7, TX7, 23)) X rfl rfl (c_X7_singles hq hR9) (cwV 2 X.1.2.2.2.2 (sf_gV tw_767 tw_769 tw_22 tw_48 tw_770) rfl rfl rfl ⟨rfl, hd_X7_singles⟩ ⟨Nat.le_of_ble_eq_true rfl, Nat.le_of_ble_eq_true rfl⟩) rfl rfl (Nat.le_of_ble_eq_true rfl) dX7_isHinge_56 rfl ?_
    refine sf_istore (i := 4) (lv' := [(4, .int r11), (3, .int r7), (2, .int (0 : Int32)), (0, .ref (q 0)), (1, .int u0)]) X dX7_isHinge_59 (by decide) rfl rfl ?_
    refine sf_aload_n (i := 0) (j := 3) X dX7_isHinge_61 rfl rfl rfl ?_
    refine sf_getR (C := RX7) (T := TX7) (N := 23) (ci := 7) (j := 7) (k' := 6) X (fun w h => sf_memc (inX7 w h)) rfl rfl (by decide) (X.1.2.2.2.2 _ (sf_memc tw_638)) (fun _ h9 => h9) rfl dX7_isHinge_62 rfl ?_
    refine sf_iload_n (i := 1) (j := 4) X dX7_isHinge_65 rfl rfl rfl ?_
    obtain ⟨b12, h⟩ := h
    refine sf_iald X rfl b12 dX7_isHinge_66 rfl ?_
    refine sf_iconst (v := 2) X dX7_isHinge_67 sf_ic_2 rfl ?_
    refine sf_icmp_ne (tgt := 101) X dX7_isHinge_68 rfl rfl (fun c13 => ?_) (fun c13 => ?_)
    · have h := sf_iff c13 h
      refine sf_iconst (v := 0) X dX7_isHinge_101 sf_ic_0 rfl ?_
      exact sf_retz X h rfl dX7_isHinge_102
    · have h := sf_ift c13 h
      refine sf_iload_n (i := 2) (j := 2) X dX7_isHinge_71 rfl rfl rfl ?_
      refine sf_if_eq (tgt := 101) X dX7_isHinge_72 rfl rfl (fun c14 => ?_) (fun c14 => ?_)
      · have h := sf_ift c14 h
        refine sf_iconst (v := 0) X dX7_isHinge_101 sf_ic_0 rfl ?_
        exact sf_retz X h rfl dX7_isHinge_102
      · have h := sf_iff c14 h
        refine sf_iload_n (i := 3) (j := 1) X dX7_isHinge_75 rfl rfl rfl ?_
        refine sf_iconst (v := 1) X dX7_isHinge_76 sf_ic_1 rfl ?_
        refine sf_icmp_lt (tgt := 101) X dX7_isHinge_77 rfl rfl (fun c15 => ?_) (fun c15 => ?_)
        · have h := sf_ift c15 h
          refine sf_iconst (v := 0) X dX7_isHinge_101 sf_ic_0 rfl ?_
          exact sf_retz X h rfl dX7_isHinge_102
        · have h := sf_iff c15 h
          refine sf_iload_n (i := 3) (j := 1) X dX7_isHinge_80 rfl rfl rfl ?_
          refine sf_iconst (v := 2) X dX7_isHinge_81 sf_ic_2 rfl ?_
          refine sf_icmp_gt (tgt := 101) X dX7_isHinge_82 rfl rfl (fun c16 => ?_) (fun c16 => ?_)
          · have h := sf_ift c16 h
            refine sf_iconst (v := 0) X dX7_isHinge_101 sf_ic_0 rfl ?_
            exact sf_retz X h rfl dX7_isHinge_102
          · have h := sf_iff c16 h
            refine sf_iload (i := 4) (j := 0) X dX7_isHinge_85 rfl rfl ?_
            refine sf_iconst (v := 1) X dX7_isHinge_87 sf_ic_1 rfl ?_
            refine sf_icmp_lt (tgt := 101) X dX7_isHinge_88 rfl rfl (fun c17 => ?_) (fun c17 => ?_)
            · have h := sf_ift c17 h
              refine sf_iconst (v := 0) X dX7_isHinge_101 sf_ic_0 rfl ?_
              exact sf_retz X h rfl dX7_isHinge_102
            · have h := sf_iff c17 h
              refine sf_iload (i := 4) (j := 0) X dX7_isHinge_91 rfl rfl ?_
              refine sf_iconst (v := 2) X dX7_isHinge_93 sf_ic_2 rfl ?_
              refine sf_icmp_gt (tgt := 101) X dX7_isHinge_94 rfl rfl (fun c18 => ?_) (fun c18 => ?_)
              · have h := sf_ift c18 h
                refine sf_iconst (v := 0) X dX7_isHinge_101 sf_ic_0 rfl ?_
                exact sf_retz X h rfl dX7_isHinge_102
              · have h := sf_iff c18 h
                refine sf_iconst (v := 1) X dX7_isHinge_97 sf_ic_1 rfl ?_
                refine sf_goto (tgt := 102) X dX7_isHinge_98 rfl ?_
                exact sf_retz X h rfl dX7_isHinge_102
  · have h := sf_iff c3 h
    refine sf_aload_n (i := 0) (j := 0) X dX7_isHinge_15 rfl rfl rfl ?_
    refine sf_getR (C := RX7) (T := TX7) (N := 23) (ci := 7) (j := 1) (k' := 1) X (fun w h => sf_memc (inX7 w h)) rfl rfl (by decide) (X.1.2.2.2.2 _ (sf_memc tw_632)) (fun _ h9 => h9) rfl dX7_isHinge_16 rfl ?_
    refine sf_aload_n (i := 0) (j := 0) X dX7_isHinge_19 rfl rfl rfl ?_
    refine sf_getR (C := RX7) (T := TX7) (N := 23) (ci := 7) (j := 6) (k' := 5) X (fun w h => sf_memc (inX7 w h)) rfl rfl (by decide) (X.1.2.2.2.2 _ (sf_memc tw_637)) (fun _ h9 => h9) rfl dX7_isHinge_20 rfl ?_
    refine sf_iload_n (i := 1) (j := 1) X dX7_isHinge_23 rfl rfl rfl ?_
    obtain ⟨b19, h⟩ := h
    refine sf_iald X rfl b19 dX7_isHinge_24 rfl ?_
    obtain ⟨b20, h⟩ := h
    refine sf_iald X rfl b20 dX7_isHinge_25 rfl ?_
    refine sf_iconst (v := 1) X dX7_isHinge_26 sf_ic_1 rfl ?_
    refine sf_icmp_gt (tgt := 34) X dX7_isHinge_27 rfl rfl (fun c21 => ?_) (fun c21 => ?_)
    · have h := sf_ift c21 h
      refine sf_iconst (v := 0) X dX7_isHinge_34 sf_ic_0 rfl ?_
      refine sf_istore_n (i := 2) (lv' := [(2, .int (0 : Int32)), (0, .ref (q 0)), (1, .int u0)]) X dX7_isHinge_35 rfl (by decide) rfl rfl ?_
      refine sf_aload_n (i := 0) (j := 1) X dX7_isHinge_36 rfl rfl rfl ?_
      refine sf_aload_n (i := 0) (j := 1) X dX7_isHinge_37 rfl rfl rfl ?_
      refine sf_getR (C := RX7) (T := TX7) (N := 23) (ci := 7) (j := 5) (k' := 4) X (fun w h => sf_memc (inX7 w h)) rfl rfl (by decide) (X.1.2.2.2.2 _ (sf_memc tw_636)) (fun _ h9 => h9) rfl dX7_isHinge_38 rfl ?_
      refine sf_iload_n (i := 1) (j := 2) X dX7_isHinge_41 rfl rfl rfl ?_
      obtain ⟨b22, h⟩ := h
      refine sf_iald X rfl b22 dX7_isHinge_42 rfl ?_
      refine sf_iload_n (i := 1) (j := 2) X dX7_isHinge_43 rfl rfl rfl ?_
      obtain ⟨r25, τ24, hR23, h⟩ := h
      refine sf_callVi (As := [.int (σ 4 (sf_ix u0)), .int u0]) (rest := []) (cv := (RX7, TX7, 23)) X rfl rfl (c_X7_singles hq hR23) (cwV 2 X.1.2.2.2.2 (sf_gV tw_767 tw_769 tw_22 tw_48 tw_770) rfl rfl rfl ⟨rfl, hd_X7_singles⟩ ⟨Nat.le_of_ble_eq_true rfl, Nat.le_of_ble_eq_true rfl⟩) rfl rfl (Nat.le_of_ble_eq_true rfl) dX7_isHinge_44 rfl ?_
      refine sf_istore_n (i := 3) (lv' := [(3, .int r25), (2, .int (0 : Int32)), (0, .ref (q 0)), (1, .int u0)]) X dX7_isHinge_47 rfl (by decide) rfl rfl ?_
      refine sf_aload_n (i := 0) (j := 2) X dX7_isHinge_48 rfl rfl rfl ?_
      refine sf_aload_n (i := 0) (j := 2) X dX7_isHinge_49 rfl rfl rfl ?_
      refine sf_getR (C := RX7) (T := TX7) (N := 23) (ci := 7) (j := 6) (k' := 5) X (fun w h => sf_memc (inX7 w h)) rfl rfl (by decide) (X.1.2.2.2.2 _ (sf_memc tw_637)) (fun _ h9 => h9) rfl dX7_isHinge_50 rfl ?_
      refine sf_iload_n (i := 1) (j := 3) X dX7_isHinge_53 rfl rfl rfl ?_
      obtain ⟨b26, h⟩ := h
      refine sf_iald X rfl b26 dX7_isHinge_54 rfl ?_
      refine sf_iload_n (i := 1) (j := 3) X dX7_isHinge_55 rfl rfl rfl ?_
      obtain ⟨r29, τ28, hR27, h⟩ := h
      refine sf_callVi (As := [.int (τ24 5 (sf_ix u0)), .int u0]) (rest := []) (cv := (RX7, TX7, 23)) X rfl rfl (c_X7_singles hq hR27) (cwV 2 X.1.2.2.2.2 (sf_gV tw_767 tw_769 tw_22 tw_48 tw_770) rfl rfl rfl ⟨rfl, hd_X7_singles⟩ ⟨Nat.le_of_ble_eq_true rfl, Nat.le_of_ble_eq_true rfl⟩) rfl rfl (Nat.le_of_ble_eq_true rfl) dX7_isHinge_56 rfl ?_
      refine sf_istore (i := 4) (lv' := [(4, .int r29), (3, .int r25), (2, .int (0 : Int32)), (0, .ref (q 0)), (1, .int u0)]) X dX7_isHinge_59 (by decide) rfl rfl ?_
      refine sf_aload_n (i := 0) (j := 3) X dX7_isHinge_61 rfl rfl rfl ?_
      refine sf_getR (C := RX7) (T := TX7) (N := 23) (ci := 7) (j := 7) (k' := 6) X (fun w h => sf_memc (inX7 w h)) rfl rfl (by decide) (X.1.2.2.2.2 _ (sf_memc tw_638)) (fun _ h9 => h9) rfl dX7_isHinge_62 rfl ?_
      refine sf_iload_n (i := 1) (j := 4) X dX7_isHinge_65 rfl rfl rfl ?_
      obtain ⟨b30, h⟩ := h
      refine sf_iald X rfl b30 dX7_isHinge_66 rfl ?_
      refine sf_iconst (v := 2) X dX7_isHinge_67 sf_ic_2 rfl ?_
      refine sf_icmp_ne (tgt := 101) X dX7_isHinge_68 rfl rfl (fun c31 => ?_) (fun c31 => ?_)
      · have h := sf_iff c31 h
        refine sf_iconst (v := 0) X dX7_isHinge_101 sf_ic_0 rfl ?_
        exact sf_retz X h rfl dX7_isHinge_102
      · have h := sf_ift c31 h
        refine sf_iload_n (i := 2) (j := 2) X dX7_isHinge_71 rfl rfl rfl ?_
        refine sf_if_eq (tgt := 101) X dX7_isHinge_72 rfl rfl (fun c32 => ?_) (fun c32 => ?_)
        · have h := sf_ift c32 h
          refine sf_iconst (v := 0) X dX7_isHinge_101 sf_ic_0 rfl ?_
          exact sf_retz X h rfl dX7_isHinge_102
        · have h := sf_iff c32 h
          refine sf_iload_n (i := 3) (j := 1) X dX7_isHinge_75 rfl rfl rfl ?_
          refine sf_iconst (v := 1) X dX7_isHinge_76 sf_ic_1 rfl ?_
          refine sf_icmp_lt (tgt := 101) X dX7_isHinge_77 rfl rfl (fun c33 => ?_) (fun c33 => ?_)
          · have h := sf_ift c33 h
            refine sf_iconst (v := 0) X dX7_isHinge_101 sf_ic_0 rfl ?_
            exact sf_retz X h rfl dX7_isHinge_102
          · have h := sf_iff c33 h
            refine sf_iload_n (i := 3) (j := 1) X dX7_isHinge_80 rfl rfl rfl ?_
            refine sf_iconst (v := 2) X dX7_isHinge_81 sf_ic_2 rfl ?_
            refine sf_icmp_gt (tgt := 101) X dX7_isHinge_82 rfl rfl (fun c34 => ?_) (fun c34 => ?_)
            · have h := sf_ift c34 h
              refine sf_iconst (v := 0) X dX7_isHinge_101 sf_ic_0 rfl ?_
              exact sf_retz X h rfl dX7_isHinge_102
            · have h := sf_iff c34 h
              refine sf_iload (i := 4) (j := 0) X dX7_isHinge_85 rfl rfl ?_
              refine sf_iconst (v := 1) X dX7_isHinge_87 sf_ic_1 rfl ?_
              refine sf_icmp_lt (tgt := 101) X dX7_isHinge_88 rfl rfl (fun c35 => ?_) (fun c35 => ?_)
              · have h := sf_ift c35 h
                refine sf_iconst (v := 0) X dX7_isHinge_101 sf_ic_0 rfl ?_
                exact sf_retz X h rfl dX7_isHinge_102
              · have h := sf_iff c35 h
                refine sf_iload (i := 4) (j := 0) X dX7_isHinge_91 rfl rfl ?_
                refine sf_iconst (v := 2) X dX7_isHinge_93 sf_ic_2 rfl ?_
                refine sf_icmp_gt (tgt := 101) X dX7_isHinge_94 rfl rfl (fun c36 => ?_) (fun c36 => ?_)
                · have h := sf_ift c36 h
                  refine sf_iconst (v := 0) X dX7_isHinge_101 sf_ic_0 rfl ?_
                  exact sf_retz X h rfl dX7_isHinge_102
                · have h := sf_iff c36 h
                  refine sf_iconst (v := 1) X dX7_isHinge_97 sf_ic_1 rfl ?_
                  refine sf_goto (tgt := 102) X dX7_isHinge_98 rfl ?_
                  exact sf_retz X h rfl dX7_isHinge_102
    · have h := sf_iff c21 h
      refine sf_iconst (v := 1) X dX7_isHinge_30 sf_ic_1 rfl ?_
      refine sf_goto (tgt := 35) X dX7_isHinge_31 rfl ?_
      refine sf_istore_n (i := 2) (lv' := [(2, .int (1 : Int32)), (0, .ref (q 0)), (1, .int u0)]) X dX7_isHinge_35 rfl (by decide) rfl rfl ?_
      refine sf_aload_n (i := 0) (j := 1) X dX7_isHinge_36 rfl rfl rfl ?_
      refine sf_aload_n (i := 0) (j := 1) X dX7_isHinge_37 rfl rfl rfl ?_
      refine sf_getR (C := RX7) (T := TX7) (N := 23) (ci := 7) (j := 5) (k' := 4) X (fun w h => sf_memc (inX7 w h)) rfl rfl (by decide) (X.1.2.2.2.2 _ (sf_memc tw_636)) (fun _ h9 => h9) rfl dX7_isHinge_38 rfl ?_
      refine sf_iload_n (i := 1) (j := 2) X dX7_isHinge_41 rfl rfl rfl ?_
      obtain ⟨b37, h⟩ := h
      refine sf_iald X rfl b37 dX7_isHinge_42 rfl ?_
      refine sf_iload_n (i := 1) (j := 2) X dX7_isHinge_43 rfl rfl rfl ?_
      obtain ⟨r40, τ39, hR38, h⟩ := h
      refine sf_callVi (As := [.int (σ 4 (sf_ix u0)), .int u0]) (rest := []) (cv := (RX7, TX7, 23)) X rfl rfl (c_X7_singles hq hR38) (cwV 2 X.1.2.2.2.2 (sf_gV tw_767 tw_769 tw_22 tw_48 tw_770) rfl rfl rfl ⟨rfl, hd_X7_singles⟩ ⟨Nat.le_of_ble_eq_true rfl, Nat.le_of_ble_eq_true rfl⟩) rfl rfl (Nat.le_of_ble_eq_true rfl) dX7_isHinge_44 rfl ?_
      refine sf_istore_n (i := 3) (lv' := [(3, .int r40), (2, .int (1 : Int32)), (0, .ref (q 0)), (1, .int u0)]) X dX7_isHinge_47 rfl (by decide) rfl rfl ?_
      refine sf_aload_n (i := 0) (j := 2) X dX7_isHinge_48 rfl rfl rfl ?_
      refine sf_aload_n (i := 0) (j := 2) X dX7_isHinge_49 rfl rfl rfl ?_
      refine sf_getR (C := RX7) (T := TX7) (N := 23) (ci := 7) (j := 6) (k' := 5) X (fun w h => sf_memc (inX7 w h)) rfl rfl (by decide) (X.1.2.2.2.2 _ (sf_memc tw_637)) (fun _ h9 => h9) rfl dX7_isHinge_50 rfl ?_
      refine sf_iload_n (i := 1) (j := 3) X dX7_isHinge_53 rfl rfl rfl ?_
      obtain ⟨b41, h⟩ := h
      refine sf_iald X rfl b41 dX7_isHinge_54 rfl ?_
      refine sf_iload_n (i := 1) (j := 3) X dX7_isHinge_55 rfl rfl rfl ?_
      obtain ⟨r44, τ43, hR42, h⟩ := h
      refine sf_callVi (As := [.int (τ39 5 (sf_ix u0)), .int u0]) (rest := []) (cv := (RX7, TX7, 23)) X rfl rfl (c_X7_singles hq hR42) (cwV 2 X.1.2.2.2.2 (sf_gV tw_767 tw_769 tw_22 tw_48 tw_770) rfl rfl rfl ⟨rfl, hd_X7_singles⟩ ⟨Nat.le_of_ble_eq_true rfl, Nat.le_of_ble_eq_true rfl⟩) rfl rfl (Nat.le_of_ble_eq_true rfl) dX7_isHinge_56 rfl ?_
      refine sf_istore (i := 4) (lv' := [(4, .int r44), (3, .int r40), (2, .int (1 : Int32)), (0, .ref (q 0)), (1, .int u0)]) X dX7_isHinge_59 (by decide) rfl rfl ?_
      refine sf_aload_n (i := 0) (j := 3) X dX7_isHinge_61 rfl rfl rfl ?_
      refine sf_getR (C := RX7) (T := TX7) (N := 23) (ci := 7) (j := 7) (k' := 6) X (fun w h => sf_memc (inX7 w h)) rfl rfl (by decide) (X.1.2.2.2.2 _ (sf_memc tw_638)) (fun _ h9 => h9) rfl dX7_isHinge_62 rfl ?_
      refine sf_iload_n (i := 1) (j := 4) X dX7_isHinge_65 rfl rfl rfl ?_
      obtain ⟨b45, h⟩ := h
      refine sf_iald X rfl b45 dX7_isHinge_66 rfl ?_
      refine sf_iconst (v := 2) X dX7_isHinge_67 sf_ic_2 rfl ?_
      refine sf_icmp_ne (tgt := 101) X dX7_isHinge_68 rfl rfl (fun c46 => ?_) (fun c46 => ?_)
      · have h := sf_iff c46 h
        refine sf_iconst (v := 0) X dX7_isHinge_101 sf_ic_0 rfl ?_
        exact sf_retz X h rfl dX7_isHinge_102
      · have h := sf_ift c46 h
        refine sf_iload_n (i := 2) (j := 2) X dX7_isHinge_71 rfl rfl rfl ?_
        refine sf_if_eq (tgt := 101) X dX7_isHinge_72 rfl rfl (fun c47 => ?_) (fun c47 => ?_)
        · have h := sf_ift c47 h
          refine sf_iconst (v := 0) X dX7_isHinge_101 sf_ic_0 rfl ?_
          exact sf_retz X h rfl dX7_isHinge_102
        · have h := sf_iff c47 h
          refine sf_iload_n (i := 3) (j := 1) X dX7_isHinge_75 rfl rfl rfl ?_
          refine sf_iconst (v := 1) X dX7_isHinge_76 sf_ic_1 rfl ?_
          refine sf_icmp_lt (tgt := 101) X dX7_isHinge_77 rfl rfl (fun c48 => ?_) (fun c48 => ?_)
          · have h := sf_ift c48 h
            refine sf_iconst (v := 0) X dX7_isHinge_101 sf_ic_0 rfl ?_
            exact sf_retz X h rfl dX7_isHinge_102
          · have h := sf_iff c48 h
            refine sf_iload_n (i := 3) (j := 1) X dX7_isHinge_80 rfl rfl rfl ?_
            refine sf_iconst (v := 2) X dX7_isHinge_81 sf_ic_2 rfl ?_
            refine sf_icmp_gt (tgt := 101) X dX7_isHinge_82 rfl rfl (fun c49 => ?_) (fun c49 => ?_)
            · have h := sf_ift c49 h
              refine sf_iconst (v := 0) X dX7_isHinge_101 sf_ic_0 rfl ?_
              exact sf_retz X h rfl dX7_isHinge_102
            · have h := sf_iff c49 h
              refine sf_iload (i := 4) (j := 0) X dX7_isHinge_85 rfl rfl ?_
              refine sf_iconst (v := 1) X dX7_isHinge_87 sf_ic_1 rfl ?_
              refine sf_icmp_lt (tgt := 101) X dX7_isHinge_88 rfl rfl (fun c50 => ?_) (fun c50 => ?_)
              · have h := sf_ift c50 h
                refine sf_iconst (v := 0) X dX7_isHinge_101 sf_ic_0 rfl ?_
                exact sf_retz X h rfl dX7_isHinge_102
              · have h := sf_iff c50 h
                refine sf_iload (i := 4) (j := 0) X dX7_isHinge_91 rfl rfl ?_
                refine sf_iconst (v := 2) X dX7_isHinge_93 sf_ic_2 rfl ?_
                refine sf_icmp_gt (tgt := 101) X dX7_isHinge_94 rfl rfl (fun c51 => ?_) (fun c51 => ?_)
                · have h := sf_ift c51 h
                  refine sf_iconst (v := 0) X dX7_isHinge_101 sf_ic_0 rfl ?_
                  exact sf_retz X h rfl dX7_isHinge_102
                · have h := sf_iff c51 h
                  refine sf_iconst (v := 1) X dX7_isHinge_97 sf_ic_1 rfl ?_
                  refine sf_goto (tgt := 102) X dX7_isHinge_98 rfl ?_
                  exact sf_retz X h rfl dX7_isHinge_102
