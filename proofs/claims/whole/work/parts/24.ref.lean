def tr_R_X7_packed_0 (Pr : Nat → sf_St → Int32 → Int32 → Prop) (r : Int32) (τ : sf_St) (σ : sf_St) (u0 u1 : Int32) : Prop :=
  Pr 1 σ (0 : Int32) (0 : Int32)
def tr_R_X7_packed_1 (Pr : Nat → sf_St → Int32 → Int32 → Prop) (r : Int32) (τ : sf_St) (σ : sf_St) (u0 u1 : Int32) : Prop :=
  if (σ 0 0) ≤ u1 then (r = u0 ∧ τ = σ) else (vp_in u1 7 ∧ (∀ y3 : Int32, y3 = (u0 ||| ((σ 8 (sf_ix u1)) <<< (((3 : Int32) * u1) &&& 31))) → (∀ y4 : Int32, y4 = u1 + (1 : Int32) → (Pr 1 σ y3 y4))))
def fn_R_X7_packed (Pr : Nat → sf_St → Int32 → Int32 → Prop) (r : Int32) (τ : sf_St) (t : Nat) (σ : sf_St) (u0 u1 : Int32) : Prop := match t with
  | 0 => tr_R_X7_packed_0 Pr r τ σ u0 u1
  | 1 => tr_R_X7_packed_1 Pr r τ σ u0 u1
  | _ => False
def Rn_R_X7_packed (t : Nat) (σ : sf_St) (u0 u1 : Int32) (r : Int32) (τ : sf_St) : Prop := ∀ Pr : Nat → sf_St → Int32 → Int32 → Prop, (∀ (t : Nat) (σ : sf_St) (u0 u1 : Int32), fn_R_X7_packed Pr r τ t σ u0 u1 → Pr t σ u0 u1) → Pr t σ u0 u1
def R_X7_packed (σ : sf_St) (r : Int32) (τ : sf_St) : Prop := Rn_R_X7_packed 0 σ  0 0 r τ
theorem fe_R_X7_packed_0 {Pr : Nat → sf_St → Int32 → Int32 → Prop} {r : Int32} {τ σ : sf_St} {u0 u1 : Int32} (h : fn_R_X7_packed Pr r τ 0 σ u0 u1) : tr_R_X7_packed_0 Pr r τ σ u0 u1 := h
theorem mo_R_X7_packed_0 {Pr Pr' : Nat → sf_St → Int32 → Int32 → Prop} {r : Int32} {τ σ : sf_St} {u0 u1 : Int32} (hP : ∀ (t : Nat) (σ : sf_St) (u0 u1 : Int32), Pr t σ u0 u1 → Pr' t σ u0 u1) (h : tr_R_X7_packed_0 Pr r τ σ u0 u1) : tr_R_X7_packed_0 Pr' r τ σ u0 u1 := by
  unfold tr_R_X7_packed_0 at h ⊢
  exact hP _ _ _ _ h
theorem ru_R_X7_packed_0 {r : Int32} {τ σ : sf_St} {u0 u1 : Int32} (h : tr_R_X7_packed_0 (fun t σ u0 u1 => Rn_R_X7_packed t σ u0 u1 r τ) r τ σ u0 u1) : Rn_R_X7_packed 0 σ u0 u1 r τ := fun Pr hP => hP 0 σ u0 u1 (mo_R_X7_packed_0 (fun _ _ _ _ h => h Pr hP) h)
theorem fe_R_X7_packed_1 {Pr : Nat → sf_St → Int32 → Int32 → Prop} {r : Int32} {τ σ : sf_St} {u0 u1 : Int32} (h : fn_R_X7_packed Pr r τ 1 σ u0 u1) : tr_R_X7_packed_1 Pr r τ σ u0 u1 := h
theorem mo_R_X7_packed_1 {Pr Pr' : Nat → sf_St → Int32 → Int32 → Prop} {r : Int32} {τ σ : sf_St} {u0 u1 : Int32} (hP : ∀ (t : Nat) (σ : sf_St) (u0 u1 : Int32), Pr t σ u0 u1 → Pr' t σ u0 u1) (h : tr_R_X7_packed_1 Pr r τ σ u0 u1) : tr_R_X7_packed_1 Pr' r τ σ u0 u1 := by
  unfold tr_R_X7_packed_1 at h ⊢
  refine sf_mif (fun h => ?_) (fun h => ?_) h
  · exact h
  · refine And.imp id (fun h => ?_) h
    intro y3 hy3
    have h := h y3 hy3
    intro y4 hy4
    have h := h y4 hy4
    exact hP _ _ _ _ h
theorem ru_R_X7_packed_1 {r : Int32} {τ σ : sf_St} {u0 u1 : Int32} (h : tr_R_X7_packed_1 (fun t σ u0 u1 => Rn_R_X7_packed t σ u0 u1 r τ) r τ σ u0 u1) : Rn_R_X7_packed 1 σ u0 u1 r τ := fun Pr hP => hP 1 σ u0 u1 (mo_R_X7_packed_1 (fun _ _ _ _ h => h Pr hP) h)
set_option maxHeartbeats 4000000 in
set_option maxRecDepth 100000 in
theorem c_X7_packed {l : Launch} {D : va_G} {q : Nat → Nat} {dA : Nat → ClassId}  (hq : sf_inj q KM) {σ τ : sf_St} {r : Int32} (h : R_X7_packed σ  r τ) : sf_Mi l yX7_packed wsX7_packed ({ frames := 0, cells := 0, slots := 0, locals := 0 }) D vwCl q dA KM sf_EM [.ref (q 0)] σ r τ := by
  refine sf_meti (cc := cX7_packed) (maxL := 3) (ret := (some .int)) (own := RX7) (by decide +kernel) rfl rfl hq sf_EMk (Nat.le_of_ble_eq_true rfl) ?_
  intro p e s m args below meth c X
  refine sf_loc (lv' := [(0, .ref (q 0))]) [0] rfl ?_
  refine h (fun t σ u0 u1 => match t with
    | 0 => sf_G p l e (headSpec wsX7_packed ({ frames := 0, cells := 0, slots := 0, locals := 0 })).room s m args below meth c (sf_Qi D vwCl q dA KM sf_EM below args s r τ) 3 D vwCl q dA KM σ 0 [(0, .ref (q 0))] []
    | 1 => sf_G p l e (headSpec wsX7_packed ({ frames := 0, cells := 0, slots := 0, locals := 0 })).room s m args below meth c (sf_Qi D vwCl q dA KM sf_EM below args s r τ) 3 D vwCl q dA KM σ 4 [(0, .ref (q 0)), (1, .int u0), (2, .int u1)] []
    | _ => True) ?_
  intro t σ u0 u1 h
  match t, h with
  | 0, h =>
      replace h := fe_R_X7_packed_0 h
      unfold tr_R_X7_packed_0 at h
      show sf_G p l e (headSpec wsX7_packed ({ frames := 0, cells := 0, slots := 0, locals := 0 })).room s m args below meth c (sf_Qi D vwCl q dA KM sf_EM below args s r τ) 3 D vwCl q dA KM σ 0 [(0, .ref (q 0))] []
      refine sf_iconst (v := 0) X dX7_packed_0 sf_ic_0 rfl ?_
      refine sf_istore_n (i := 1) (lv' := [(1, .int (0 : Int32)), (0, .ref (q 0))]) X dX7_packed_1 rfl (by decide) rfl rfl ?_
      refine sf_iconst (v := 0) X dX7_packed_2 sf_ic_0 rfl ?_
      refine sf_istore_n (i := 2) (lv' := [(2, .int (0 : Int32)), (1, .int (0 : Int32)), (0, .ref (q 0))]) X dX7_packed_3 rfl (by decide) rfl rfl ?_
      refine sf_loc (lv' := [(0, .ref (q 0)), (1, .int (0 : Int32)), (2, .int (0 : Int32))]) [2, 1, 0] rfl ?_
      exact h
  | 1, h =>
      replace h := fe_R_X7_packed_1 h
      unfold tr_R_X7_packed_1 at h
      show sf_G p l e (headSpec wsX7_packed ({ frames := 0, cells := 0, slots := 0, locals := 0 })).room s m args below meth c (sf_Qi D vwCl q dA KM sf_EM below args s r τ) 3 D vwCl q dA KM σ 4 [(0, .ref (q 0)), (1, .int u0), (2, .int u1)] []
      refine sf_iload_n (i := 2) (j := 2) X dX7_packed_4 rfl rfl rfl ?_
      refine sf_aload_n (i := 0) (j := 0) X dX7_packed_5 rfl rfl rfl ?_
      refine sf_getI (C := RX7) (T := TX7) (N := 23) (ci := 7) (j := 0) X (fun w h => sf_memc (inX7 w h)) rfl rfl (by decide) (X.1.2.2.2.2 _ (sf_memc tw_631)) (fun _ h9 => h9) rfl dX7_packed_6 rfl ?_
      refine sf_icmp_ge (tgt := 31) X dX7_packed_9 rfl rfl (fun c1 => ?_) (fun c1 => ?_)
      · have h := sf_ift c1 h
        refine sf_iload_n (i := 1) (j := 1) X dX7_packed_31 rfl rfl rfl ?_
        exact sf_reti X h dX7_packed_32
      · have h := sf_iff c1 h
        refine sf_iload_n (i := 1) (j := 1) X dX7_packed_12 rfl rfl rfl ?_
        refine sf_aload_n (i := 0) (j := 0) X dX7_packed_13 rfl rfl rfl ?_
        refine sf_getR (C := RX7) (T := TX7) (N := 23) (ci := 7) (j := 9) (k' := 8) X (fun w h => sf_memc (inX7 w h)) rfl rfl (by decide) (X.1.2.2.2.2 _ (sf_memc tw_640)) (fun _ h9 => h9) rfl dX7_packed_14 rfl ?_
        refine sf_iload_n (i := 2) (j := 2) X dX7_packed_17 rfl rfl rfl ?_
        obtain ⟨b2, h⟩ := h
        refine sf_iald X rfl b2 dX7_packed_18 rfl ?_
        refine sf_iconst (v := 3) X dX7_packed_19 sf_ic_3 rfl ?_
        refine sf_iload_n (i := 2) (j := 2) X dX7_packed_20 rfl rfl rfl ?_
        refine sf_imul X dX7_packed_21 rfl ?_
        refine sf_ishl X dX7_packed_22 rfl ?_
        refine sf_ior X dX7_packed_23 rfl ?_
        refine sf_top (fun y3 hy3 => ?_)
        have h := h y3 hy3
        refine sf_istore_n (i := 1) (lv' := [(1, .int y3), (0, .ref (q 0)), (2, .int u1)]) X dX7_packed_24 rfl (by decide) rfl rfl ?_
        refine sf_iinc (i := 2) (j := 2) (d := 1) (lv' := fun y4 => [(2, .int y4), (1, .int y3), (0, .ref (q 0))]) X dX7_packed_25 rfl sf_ic_1 (by decide) (fun _ => rfl) rfl (fun y4 hy4 => ?_)
        have h := h y4 hy4
        refine sf_goto (tgt := 4) X dX7_packed_28 rfl ?_
        refine sf_loc (lv' := [(0, .ref (q 0)), (1, .int y3), (2, .int y4)]) [2, 1, 0] rfl ?_
        exact h
  | (_ + 2), _ => exact trivial
def tr_R_X7_rowOf_0 (Pr : Nat → sf_St → Int32 → Int32 → Int32 → Prop) (r : Int32) (τ : sf_St) (σ : sf_St) (u0 u1 u2 : Int32) : Prop :=
  vp_in u0 7 ∧ (vp_in (σ 8 (sf_ix u0)) 7 ∧ (vp_in u0 7 ∧ (∃ (r6 : Int32) (τ5 : sf_St), R_X7_left σ (σ 8 (sf_ix u0)) r6 τ5 ∧ (∀ y7 : Int32, y7 = ((65536 : Int32) * (((8 : Int32) * (σ 1 (sf_ix (σ 8 (sf_ix u0))))) + r6)) → (Pr 1 τ5 u0 y7 (0 : Int32))))))
def tr_R_X7_rowOf_1 (Pr : Nat → sf_St → Int32 → Int32 → Int32 → Prop) (r : Int32) (τ : sf_St) (σ : sf_St) (u0 u1 u2 : Int32) : Prop :=
  if u0 ≤ u2 then (r = u1 ∧ τ = σ) else (vp_in u0 7 ∧ (vp_in u2 7 ∧ (∃ (r13 : Int32) (τ12 : sf_St), R_X7_bondOf σ (σ 8 (sf_ix u0)) (σ 8 (sf_ix u2)) r13 τ12 ∧ (if (0 : Int32) ≤ r13 then (vp_in r13 9 ∧ (∀ y16 : Int32, y16 = (u1 + ((τ12 6 (sf_ix r13)) <<< (((2 : Int32) * u2) &&& 31))) → (∀ y17 : Int32, y17 = u2 + (1 : Int32) → (Pr 1 τ12 u0 y16 y17)))) else (∀ y18 : Int32, y18 = (u1 + (0 : Int32)) → (∀ y19 : Int32, y19 = u2 + (1 : Int32) → (Pr 1 τ12 u0 y18 y19)))))))
def fn_R_X7_rowOf (Pr : Nat → sf_St → Int32 → Int32 → Int32 → Prop) (r : Int32) (τ : sf_St) (t : Nat) (σ : sf_St) (u0 u1 u2 : Int32) : Prop := match t with
  | 0 => tr_R_X7_rowOf_0 Pr r τ σ u0 u1 u2
  | 1 => tr_R_X7_rowOf_1 Pr r τ σ u0 u1 u2
  | _ => False
def Rn_R_X7_rowOf (t : Nat) (σ : sf_St) (u0 u1 u2 : Int32) (r : Int32) (τ : sf_St) : Prop := ∀ Pr : Nat → sf_St → Int32 → Int32 → Int32 → Prop, (∀ (t : Nat) (σ : sf_St) (u0 u1 u2 : Int32), fn_R_X7_rowOf Pr r τ t σ u0 u1 u2 → Pr t σ u0 u1 u2) → Pr t σ u0 u1 u2
def R_X7_rowOf (σ : sf_St) (u0 : Int32) (r : Int32) (τ : sf_St) : Prop := Rn_R_X7_rowOf 0 σ u0 0 0 r τ
theorem fe_R_X7_rowOf_0 {Pr : Nat → sf_St → Int32 → Int32 → Int32 → Prop} {r : Int32} {τ σ : sf_St} {u0 u1 u2 : Int32} (h : fn_R_X7_rowOf Pr r τ 0 σ u0 u1 u2) : tr_R_X7_rowOf_0 Pr r τ σ u0 u1 u2 := h
theorem mo_R_X7_rowOf_0 {Pr Pr' : Nat → sf_St → Int32 → Int32 → Int32 → Prop} {r : Int32} {τ σ : sf_St} {u0 u1 u2 : Int32} (hP : ∀ (t : Nat) (σ : sf_St) (u0 u1 u2 : Int32), Pr t σ u0 u1 u2 → Pr' t σ u0 u1 u2) (h : tr_R_X7_rowOf_0 Pr r τ σ u0 u1 u2) : tr_R_X7_rowOf_0 Pr' r τ σ u0 u1 u2 := by
  unfold tr_R_X7_rowOf_0 at h ⊢
  refine And.imp id (fun h => ?_) h
  refine And.imp id (fun h => ?_) h
  refine And.imp id (fun h => ?_) h
  refine Exists.imp (fun _ h => Exists.imp (fun _ h => And.imp id (fun h => ?_) h) h) h
  intro y7 hy7
  have h := h y7 hy7
  exact hP _ _ _ _ _ h
theorem ru_R_X7_rowOf_0 {r : Int32} {τ σ : sf_St} {u0 u1 u2 : Int32} (h : tr_R_X7_rowOf_0 (fun t σ u0 u1 u2 => Rn_R_X7_rowOf t σ u0 u1 u2 r τ) r τ σ u0 u1 u2) : Rn_R_X7_rowOf 0 σ u0 u1 u2 r τ := fun Pr hP => hP 0 σ u0 u1 u2 (mo_R_X7_rowOf_0 (fun _ _ _ _ _ h => h Pr hP) h)
theorem fe_R_X7_rowOf_1 {Pr : Nat → sf_St → Int32 → Int32 → Int32 → Prop} {r : Int32} {τ σ : sf_St} {u0 u1 u2 : Int32} (h : fn_R_X7_rowOf Pr r τ 1 σ u0 u1 u2) : tr_R_X7_rowOf_1 Pr r τ σ u0 u1 u2 := h
theorem mo_R_X7_rowOf_1 {Pr Pr' : Nat → sf_St → Int32 → Int32 → Int32 → Prop} {r : Int32} {τ σ : sf_St} {u0 u1 u2 : Int32} (hP : ∀ (t : Nat) (σ : sf_St) (u0 u1 u2 : Int32), Pr t σ u0 u1 u2 → Pr' t σ u0 u1 u2) (h : tr_R_X7_rowOf_1 Pr r τ σ u0 u1 u2) : tr_R_X7_rowOf_1 Pr' r τ σ u0 u1 u2 := by
  unfold tr_R_X7_rowOf_1 at h ⊢
  refine sf_mif (fun h => ?_) (fun h => ?_) h
  · exact h
  · refine And.imp id (fun h => ?_) h
    refine And.imp id (fun h => ?_) h
    refine Exists.imp (fun _ h => Exists.imp (fun _ h => And.imp id (fun h => ?_) h) h) h
    refine sf_mif (fun h => ?_) (fun h => ?_) h
    · refine And.imp id (fun h => ?_) h
      intro y16 hy16
      have h := h y16 hy16
      intro y17 hy17
      have h := h y17 hy17
      exact hP _ _ _ _ _ h
    · intro y18 hy18
      have h := h y18 hy18
      intro y19 hy19
      have h := h y19 hy19
      exact hP _ _ _ _ _ h
theorem ru_R_X7_rowOf_1 {r : Int32} {τ σ : sf_St} {u0 u1 u2 : Int32} (h : tr_R_X7_rowOf_1 (fun t σ u0 u1 u2 => Rn_R_X7_rowOf t σ u0 u1 u2 r τ) r τ σ u0 u1 u2) : Rn_R_X7_rowOf 1 σ u0 u1 u2 r τ := fun Pr hP => hP 1 σ u0 u1 u2 (mo_R_X7_rowOf_1 (fun _ _ _ _ _ h => h Pr hP) h)
set_option maxHeartbeats 4000000 in
set_option maxRecDepth 100000 in
theorem c_X7_rowOf {l : Launch} {D : va_G} {q : Nat → Nat} {dA : Nat → ClassId}  (hq : sf_inj q KM) {σ τ : sf_St} {u0 : Int32} {r : Int32} (h : R_X7_rowOf σ u0 r τ) : sf_Mi l yX7_rowOf wsX7_rowOf ({ frames := 2, cells := 0, slots := 0, locals := 43 }) D vwCl q dA KM sf_EM [.ref (q 0), .int u0] σ r τ := by
  refine sf_meti (cc := cX7_rowOf) (maxL := 5) (ret := (some .int)) (own := RX7) (by decide +kernel) rfl rfl hq sf_EMk (Nat.le_of_ble_eq_true rfl) ?_
  intro p e s m args below meth c X
  refine sf_loc (lv' := [(0, .ref (q 0)), (1, .int u0)]) [0, 1] rfl ?_
  refine h (fun t σ u0 u1 u2 => match t with
    | 0 => sf_G p l e (headSpec wsX7_rowOf ({ frames := 2, cells := 0, slots := 0, locals := 43 })).room s m args below meth c (sf_Qi D vwCl q dA KM sf_EM below args s r τ) 5 D vwCl q dA KM σ 0 [(0, .ref (q 0)), (1, .int u0)] []
    | 1 => sf_G p l e (headSpec wsX7_rowOf ({ frames := 2, cells := 0, slots := 0, locals := 43 })).room s m args below meth c (sf_Qi D vwCl q dA KM sf_EM below args s r τ) 5 D vwCl q dA KM σ 31 [(0, .ref (q 0)), (1, .int u0), (2, .int u1), (3, .int u2)] []
    | _ => True) ?_
  intro t σ u0 u1 u2 h
  match t, h with
  | 0, h =>
      replace h := fe_R_X7_rowOf_0 h
      unfold tr_R_X7_rowOf_0 at h
      show sf_G p l e (headSpec wsX7_rowOf ({ frames := 2, cells := 0, slots := 0, locals := 43 })).room s m args below meth c (sf_Qi D vwCl q dA KM sf_EM below args s r τ) 5 D vwCl q dA KM σ 0 [(0, .ref (q 0)), (1, .int u0)] []
      refine sf_ldc (v := 65536) X (X.1.2.2.2.2 _ (sf_memc tw_814)) dX7_rowOf_0 rfl ?_
      refine sf_bipush (v := 8) X dX7_rowOf_2 sf_bc_8 rfl ?_
      refine sf_aload_n (i := 0) (j := 0) X dX7_rowOf_4 rfl rfl rfl ?_
      refine sf_getR (C := RX7) (T := TX7) (N := 23) (ci := 7) (j := 1) (k' := 1) X (fun w h => sf_memc (inX7 w h)) rfl rfl (by decide) (X.1.2.2.2.2 _ (sf_memc tw_632)) (fun _ h9 => h9) rfl dX7_rowOf_5 rfl ?_
      refine sf_aload_n (i := 0) (j := 0) X dX7_rowOf_8 rfl rfl rfl ?_
      refine sf_getR (C := RX7) (T := TX7) (N := 23) (ci := 7) (j := 9) (k' := 8) X (fun w h => sf_memc (inX7 w h)) rfl rfl (by decide) (X.1.2.2.2.2 _ (sf_memc tw_640)) (fun _ h9 => h9) rfl dX7_rowOf_9 rfl ?_
      refine sf_iload_n (i := 1) (j := 1) X dX7_rowOf_12 rfl rfl rfl ?_
      obtain ⟨b1, h⟩ := h
      refine sf_iald X rfl b1 dX7_rowOf_13 rfl ?_
      obtain ⟨b2, h⟩ := h
      refine sf_iald X rfl b2 dX7_rowOf_14 rfl ?_
      refine sf_imul X dX7_rowOf_15 rfl ?_
      refine sf_aload_n (i := 0) (j := 0) X dX7_rowOf_16 rfl rfl rfl ?_
      refine sf_aload_n (i := 0) (j := 0) X dX7_rowOf_17 rfl rfl rfl ?_
      refine sf_getR (C := RX7) (T := TX7) (N := 23) (ci := 7) (j := 9) (k' := 8) X (fun w h => sf_memc (inX7 w h)) rfl rfl (by decide) (X.1.2.2.2.2 _ (sf_memc tw_640)) (fun _ h9 => h9) rfl dX7_rowOf_18 rfl ?_
      refine sf_iload_n (i := 1) (j := 1) X dX7_rowOf_21 rfl rfl rfl ?_
      obtain ⟨b3, h⟩ := h
      refine sf_iald X rfl b3 dX7_rowOf_22 rfl ?_
      obtain ⟨r6, τ5, hR4, h⟩ := h
      refine sf_callVi (As := [.int (σ 8 (sf_ix u0))]) (rest := [.int ((8 : Int32) * (σ 1 (sf_ix (σ 8 (sf_ix u0))))), .int (65536 : Int32)]) (cv := (RX7, TX7, 23)) X rfl rfl (c_X7_left hq hR4) (cwV 1 X.1.2.2.2.2 (sf_gV tw_720 tw_722 tw_17 tw_48 tw_723) rfl rfl rfl ⟨rfl, hd_X7_left⟩ ⟨Nat.le_of_ble_eq_true rfl, Nat.le_of_ble_eq_true rfl⟩) rfl rfl (Nat.le_of_ble_eq_true rfl) dX7_rowOf_23 rfl ?_
      refine sf_iadd X dX7_rowOf_26 rfl ?_
      refine sf_imul X dX7_rowOf_27 rfl ?_
      refine sf_top (fun y7 hy7 => ?_)
      have h := h y7 hy7
      refine sf_istore_n (i := 2) (lv' := [(2, .int y7), (0, .ref (q 0)), (1, .int u0)]) X dX7_rowOf_28 rfl (by decide) rfl rfl ?_
      refine sf_iconst (v := 0) X dX7_rowOf_29 sf_ic_0 rfl ?_
      refine sf_istore_n (i := 3) (lv' := [(3, .int (0 : Int32)), (2, .int y7), (0, .ref (q 0)), (1, .int u0)]) X dX7_rowOf_30 rfl (by decide) rfl rfl ?_
      refine sf_loc (lv' := [(0, .ref (q 0)), (1, .int u0), (2, .int y7), (3, .int (0 : Int32))]) [2, 3, 1, 0] rfl ?_
      exact h
  | 1, h =>
      replace h := fe_R_X7_rowOf_1 h
      unfold tr_R_X7_rowOf_1 at h
      show sf_G p l e (headSpec wsX7_rowOf ({ frames := 2, cells := 0, slots := 0, locals := 43 })).room s m args below meth c (sf_Qi D vwCl q dA KM sf_EM below args s r τ) 5 D vwCl q dA KM σ 31 [(0, .ref (q 0)), (1, .int u0), (2, .int u1), (3, .int u2)] []
      refine sf_iload_n (i := 3) (j := 3) X dX7_rowOf_31 rfl rfl rfl ?_
      refine sf_iload_n (i := 1) (j := 1) X dX7_rowOf_32 rfl rfl rfl ?_
      refine sf_icmp_ge (tgt := 83) X dX7_rowOf_33 rfl rfl (fun c8 => ?_) (fun c8 => ?_)
      · have h := sf_ift c8 h
        refine sf_iload_n (i := 2) (j := 2) X dX7_rowOf_83 rfl rfl rfl ?_
        exact sf_reti X h dX7_rowOf_84
      · have h := sf_iff c8 h
        refine sf_aload_n (i := 0) (j := 0) X dX7_rowOf_36 rfl rfl rfl ?_
        refine sf_aload_n (i := 0) (j := 0) X dX7_rowOf_37 rfl rfl rfl ?_
        refine sf_getR (C := RX7) (T := TX7) (N := 23) (ci := 7) (j := 9) (k' := 8) X (fun w h => sf_memc (inX7 w h)) rfl rfl (by decide) (X.1.2.2.2.2 _ (sf_memc tw_640)) (fun _ h9 => h9) rfl dX7_rowOf_38 rfl ?_
        refine sf_iload_n (i := 1) (j := 1) X dX7_rowOf_41 rfl rfl rfl ?_
        obtain ⟨b9, h⟩ := h
        refine sf_iald X rfl b9 dX7_rowOf_42 rfl ?_
        refine sf_aload_n (i := 0) (j := 0) X dX7_rowOf_43 rfl rfl rfl ?_
        refine sf_getR (C := RX7) (T := TX7) (N := 23) (ci := 7) (j := 9) (k' := 8) X (fun w h => sf_memc (inX7 w h)) rfl rfl (by decide) (X.1.2.2.2.2 _ (sf_memc tw_640)) (fun _ h9 => h9) rfl dX7_rowOf_44 rfl ?_
        refine sf_iload_n (i := 3) (j := 3) X dX7_rowOf_47 rfl rfl rfl ?_
        obtain ⟨b10, h⟩ := h
        refine sf_iald X rfl b10 dX7_rowOf_48 rfl ?_
        obtain ⟨r13, τ12, hR11, h⟩ := h
        refine sf_callVi (As := [.int (σ 8 (sf_ix u0)), .int (σ 8 (sf_ix u2))]) (rest := []) (cv := (RX7, TX7, 23)) X rfl rfl (c_X7_bondOf hq hR11) (cwV 2 X.1.2.2.2.2 (sf_gV tw_716 tw_718 tw_16 tw_48 tw_719) rfl rfl rfl ⟨rfl, hd_X7_bondOf⟩ ⟨Nat.le_of_ble_eq_true rfl, Nat.le_of_ble_eq_true rfl⟩) rfl rfl (Nat.le_of_ble_eq_true rfl) dX7_rowOf_49 rfl ?_
        refine sf_istore (i := 4) (lv' := [(4, .int r13), (0, .ref (q 0)), (1, .int u0), (2, .int u1), (3, .int u2)]) X dX7_rowOf_52 (by decide) rfl rfl ?_
        refine sf_iload_n (i := 2) (j := 3) X dX7_rowOf_54 rfl rfl rfl ?_
        refine sf_iload (i := 4) (j := 0) X dX7_rowOf_55 rfl rfl ?_
        refine sf_if_ge (tgt := 64) X dX7_rowOf_57 rfl rfl (fun c14 => ?_) (fun c14 => ?_)
        · have h := sf_ift c14 h
          refine sf_aload_n (i := 0) (j := 1) X dX7_rowOf_64 rfl rfl rfl ?_
          refine sf_getR (C := RX7) (T := TX7) (N := 23) (ci := 7) (j := 7) (k' := 6) X (fun w h => sf_memc (inX7 w h)) rfl rfl (by decide) (X.1.2.2.2.2 _ (sf_memc tw_638)) (fun _ h9 => h9) rfl dX7_rowOf_65 rfl ?_
          refine sf_iload (i := 4) (j := 0) X dX7_rowOf_68 rfl rfl ?_
          obtain ⟨b15, h⟩ := h
          refine sf_iald X rfl b15 dX7_rowOf_70 rfl ?_
          refine sf_iconst (v := 2) X dX7_rowOf_71 sf_ic_2 rfl ?_
          refine sf_iload_n (i := 3) (j := 4) X dX7_rowOf_72 rfl rfl rfl ?_
          refine sf_imul X dX7_rowOf_73 rfl ?_
          refine sf_ishl X dX7_rowOf_74 rfl ?_
          refine sf_iadd X dX7_rowOf_75 rfl ?_
          refine sf_top (fun y16 hy16 => ?_)
          have h := h y16 hy16
          refine sf_istore_n (i := 2) (lv' := [(2, .int y16), (4, .int r13), (0, .ref (q 0)), (1, .int u0), (3, .int u2)]) X dX7_rowOf_76 rfl (by decide) rfl rfl ?_
          refine sf_iinc (i := 3) (j := 4) (d := 1) (lv' := fun y17 => [(3, .int y17), (2, .int y16), (4, .int r13), (0, .ref (q 0)), (1, .int u0)]) X dX7_rowOf_77 rfl sf_ic_1 (by decide) (fun _ => rfl) rfl (fun y17 hy17 => ?_)
          have h := h y17 hy17
          refine sf_goto (tgt := 31) X dX7_rowOf_80 rfl ?_
          refine sf_loc (lv' := [(0, .ref (q 0)), (1, .int u0), (2, .int y16), (3, .int y17)]) [3, 4, 1, 0] rfl ?_
          exact h
        · have h := sf_iff c14 h
          refine sf_iconst (v := 0) X dX7_rowOf_60 sf_ic_0 rfl ?_
          refine sf_goto (tgt := 75) X dX7_rowOf_61 rfl ?_
          refine sf_iadd X dX7_rowOf_75 rfl ?_
          refine sf_top (fun y18 hy18 => ?_)
          have h := h y18 hy18
          refine sf_istore_n (i := 2) (lv' := [(2, .int y18), (4, .int r13), (0, .ref (q 0)), (1, .int u0), (3, .int u2)]) X dX7_rowOf_76 rfl (by decide) rfl rfl ?_
          refine sf_iinc (i := 3) (j := 4) (d := 1) (lv' := fun y19 => [(3, .int y19), (2, .int y18), (4, .int r13), (0, .ref (q 0)), (1, .int u0)]) X dX7_rowOf_77 rfl sf_ic_1 (by decide) (fun _ => rfl) rfl (fun y19 hy19 => ?_)
          have h := h y19 hy19
          refine sf_goto (tgt := 31) X dX7_rowOf_80 rfl ?_
          refine sf_loc (lv' := [(0, .ref (q 0)), (1, .int u0), (2, .int y18), (3, .int y19)]) [3, 4, 1, 0] rfl ?_
          exact h
  | (_ + 2), _ => exact trivial
def tr_R_X7_search_0 (Pr : Nat → sf_St → Int32 → Int32 → Int32 → Prop) (τ : sf_St) (σ : sf_St) (u0 u1 u2 : Int32) : Prop :=
  if (σ 0 11) = (0 : Int32) then (∀ τ2 : sf_St, τ2 = sf_up σ 0 11 (1 : Int32) → (∃ τ4 : sf_St, R_X7_ownNumbers τ2 τ4 ∧ (∀ τ5 : sf_St, τ5 = sf_up τ4 0 13 (0 : Int32) → (if (τ5 0 0) ≤ (0 : Int32) then (Pr 1 τ5 (0 : Int32) 0 0) else (Pr 1 τ5 (1 : Int32) 0 0))))) else (τ = σ)
def tr_R_X7_search_1 (Pr : Nat → sf_St → Int32 → Int32 → Int32 → Prop) (τ : sf_St) (σ : sf_St) (u0 u1 u2 : Int32) : Prop :=
  if u0 = (0 : Int32) then (τ = σ) else (if (σ 0 13) = (0 : Int32) then (Pr 2 σ u0 (-1 : Int32) (0 : Int32)) else (Pr 2 σ u0 (0 : Int32) (0 : Int32)))
def tr_R_X7_search_2 (Pr : Nat → sf_St → Int32 → Int32 → Int32 → Prop) (τ : sf_St) (σ : sf_St) (u0 u1 u2 : Int32) : Prop :=
  if (σ 0 0) ≤ u2 then (if (0 : Int32) ≤ u1 then (∀ τ11 : sf_St, τ11 = sf_up σ 0 13 (σ 0 13) → (if (1 : Int32) ≤ u1 then (∃ (r15 : Int32) (τ14 : sf_St), R_X7_nextOrder τ11 r15 τ14 ∧ (Pr 1 τ14 r15 0 0)) else (∃ (r18 : Int32) (τ17 : sf_St), R_X7_packed τ11 r18 τ17 ∧ (vp_in (τ11 0 13) 5040 ∧ (∀ τ20 : sf_St, τ20 = sf_up τ17 11 (sf_ix (τ11 0 13)) r18 → (∀ τ21 : sf_St, τ21 = sf_up τ20 0 13 ((τ20 0 13) + (1 : Int32)) → (∃ (r24 : Int32) (τ23 : sf_St), R_X7_nextOrder τ21 r24 τ23 ∧ (Pr 1 τ23 r24 0 0)))))))) else (∀ τ25 : sf_St, τ25 = sf_up σ 0 13 (0 : Int32) → (if (1 : Int32) ≤ u1 then (∃ (r29 : Int32) (τ28 : sf_St), R_X7_nextOrder τ25 r29 τ28 ∧ (Pr 1 τ28 r29 0 0)) else (∃ (r32 : Int32) (τ31 : sf_St), R_X7_packed τ25 r32 τ31 ∧ (vp_in (τ25 0 13) 5040 ∧ (∀ τ34 : sf_St, τ34 = sf_up τ31 11 (sf_ix (τ25 0 13)) r32 → (∀ τ35 : sf_St, τ35 = sf_up τ34 0 13 ((τ34 0 13) + (1 : Int32)) → (∃ (r38 : Int32) (τ37 : sf_St), R_X7_nextOrder τ35 r38 τ37 ∧ (Pr 1 τ37 r38 0 0))))))))) else (if (1 : Int32) ≤ u1 then (if (0 : Int32) ≤ u1 then (∀ τ41 : sf_St, τ41 = sf_up σ 0 13 (σ 0 13) → (if (1 : Int32) ≤ u1 then (∃ (r45 : Int32) (τ44 : sf_St), R_X7_nextOrder τ41 r45 τ44 ∧ (Pr 1 τ44 r45 0 0)) else (∃ (r48 : Int32) (τ47 : sf_St), R_X7_packed τ41 r48 τ47 ∧ (vp_in (τ41 0 13) 5040 ∧ (∀ τ50 : sf_St, τ50 = sf_up τ47 11 (sf_ix (τ41 0 13)) r48 → (∀ τ51 : sf_St, τ51 = sf_up τ50 0 13 ((τ50 0 13) + (1 : Int32)) → (∃ (r54 : Int32) (τ53 : sf_St), R_X7_nextOrder τ51 r54 τ53 ∧ (Pr 1 τ53 r54 0 0)))))))) else (∀ τ55 : sf_St, τ55 = sf_up σ 0 13 (0 : Int32) → (if (1 : Int32) ≤ u1 then (∃ (r59 : Int32) (τ58 : sf_St), R_X7_nextOrder τ55 r59 τ58 ∧ (Pr 1 τ58 r59 0 0)) else (∃ (r62 : Int32) (τ61 : sf_St), R_X7_packed τ55 r62 τ61 ∧ (vp_in (τ55 0 13) 5040 ∧ (∀ τ64 : sf_St, τ64 = sf_up τ61 11 (sf_ix (τ55 0 13)) r62 → (∀ τ65 : sf_St, τ65 = sf_up τ64 0 13 ((τ64 0 13) + (1 : Int32)) → (∃ (r68 : Int32) (τ67 : sf_St), R_X7_nextOrder τ65 r68 τ67 ∧ (Pr 1 τ67 r68 0 0))))))))) else (∃ (r71 : Int32) (τ70 : sf_St), R_X7_rowOf σ u2 r71 τ70 ∧ (if u1 < (0 : Int32) then (if (0 : Int32) ≤ u1 then (vp_in u2 7 ∧ (vp_in u2 7 ∧ (∀ τ76 : sf_St, τ76 = sf_up τ70 10 (sf_ix u2) (τ70 10 (sf_ix u2)) → (∀ y77 : Int32, y77 = u2 + (1 : Int32) → (Pr 2 τ76 u0 u1 y77))))) else (vp_in u2 7 ∧ (∀ τ79 : sf_St, τ79 = sf_up τ70 10 (sf_ix u2) r71 → (∀ y80 : Int32, y80 = u2 + (1 : Int32) → (Pr 2 τ79 u0 u1 y80))))) else (vp_in u2 7 ∧ (if r71 = (τ70 10 (sf_ix u2)) then (if (0 : Int32) ≤ u1 then (vp_in u2 7 ∧ (vp_in u2 7 ∧ (∀ τ104 : sf_St, τ104 = sf_up τ70 10 (sf_ix u2) (τ70 10 (sf_ix u2)) → (∀ y105 : Int32, y105 = u2 + (1 : Int32) → (Pr 2 τ104 u0 u1 y105))))) else (vp_in u2 7 ∧ (∀ τ107 : sf_St, τ107 = sf_up τ70 10 (sf_ix u2) r71 → (∀ y108 : Int32, y108 = u2 + (1 : Int32) → (Pr 2 τ107 u0 u1 y108))))) else (vp_in u2 7 ∧ (if (τ70 10 (sf_ix u2)) ≤ r71 then (if (0 : Int32) ≤ (1 : Int32) then (vp_in u2 7 ∧ (vp_in u2 7 ∧ (∀ τ88 : sf_St, τ88 = sf_up τ70 10 (sf_ix u2) (τ70 10 (sf_ix u2)) → (∀ y89 : Int32, y89 = u2 + (1 : Int32) → (Pr 2 τ88 u0 (1 : Int32) y89))))) else (vp_in u2 7 ∧ (∀ τ91 : sf_St, τ91 = sf_up τ70 10 (sf_ix u2) r71 → (∀ y92 : Int32, y92 = u2 + (1 : Int32) → (Pr 2 τ91 u0 (1 : Int32) y92))))) else (if (0 : Int32) ≤ (-1 : Int32) then (vp_in u2 7 ∧ (vp_in u2 7 ∧ (∀ τ96 : sf_St, τ96 = sf_up τ70 10 (sf_ix u2) (τ70 10 (sf_ix u2)) → (∀ y97 : Int32, y97 = u2 + (1 : Int32) → (Pr 2 τ96 u0 (-1 : Int32) y97))))) else (vp_in u2 7 ∧ (∀ τ99 : sf_St, τ99 = sf_up τ70 10 (sf_ix u2) r71 → (∀ y100 : Int32, y100 = u2 + (1 : Int32) → (Pr 2 τ99 u0 (-1 : Int32) y100))))))))))))
def fn_R_X7_search (Pr : Nat → sf_St → Int32 → Int32 → Int32 → Prop) (τ : sf_St) (t : Nat) (σ : sf_St) (u0 u1 u2 : Int32) : Prop := match t with
  | 0 => tr_R_X7_search_0 Pr τ σ u0 u1 u2
  | 1 => tr_R_X7_search_1 Pr τ σ u0 u1 u2
  | 2 => tr_R_X7_search_2 Pr τ σ u0 u1 u2
  | _ => False
def Rn_R_X7_search (t : Nat) (σ : sf_St) (u0 u1 u2 : Int32) (τ : sf_St) : Prop := ∀ Pr : Nat → sf_St → Int32 → Int32 → Int32 → Prop, (∀ (t : Nat) (σ : sf_St) (u0 u1 u2 : Int32), fn_R_X7_search Pr τ t σ u0 u1 u2 → Pr t σ u0 u1 u2) → Pr t σ u0 u1 u2
def R_X7_search (σ : sf_St) (τ : sf_St) : Prop := Rn_R_X7_search 0 σ  0 0 0 τ
theorem fe_R_X7_search_0 {Pr : Nat → sf_St → Int32 → Int32 → Int32 → Prop} {τ σ : sf_St} {u0 u1 u2 : Int32} (h : fn_R_X7_search Pr τ 0 σ u0 u1 u2) : tr_R_X7_search_0 Pr τ σ u0 u1 u2 := h
theorem mo_R_X7_search_0 {Pr Pr' : Nat → sf_St → Int32 → Int32 → Int32 → Prop} {τ σ : sf_St} {u0 u1 u2 : Int32} (hP : ∀ (t : Nat) (σ : sf_St) (u0 u1 u2 : Int32), Pr t σ u0 u1 u2 → Pr' t σ u0 u1 u2) (h : tr_R_X7_search_0 Pr τ σ u0 u1 u2) : tr_R_X7_search_0 Pr' τ σ u0 u1 u2 := by
  unfold tr_R_X7_search_0 at h ⊢
  refine sf_mif (fun h => ?_) (fun h => ?_) h
  · intro τ2 hτ2
    have h := h τ2 hτ2
    refine Exists.imp (fun _ h => And.imp id (fun h => ?_) h) h
    intro τ5 hτ5
    have h := h τ5 hτ5
    refine sf_mif (fun h => ?_) (fun h => ?_) h
    · exact hP _ _ _ _ _ h
    · exact hP _ _ _ _ _ h
  · exact h
theorem ru_R_X7_search_0 {τ σ : sf_St} {u0 u1 u2 : Int32} (h : tr_R_X7_search_0 (fun t σ u0 u1 u2 => Rn_R_X7_search t σ u0 u1 u2 τ) τ σ u0 u1 u2) : Rn_R_X7_search 0 σ u0 u1 u2 τ := fun Pr hP => hP 0 σ u0 u1 u2 (mo_R_X7_search_0 (fun _ _ _ _ _ h => h Pr hP) h)
theorem fe_R_X7_search_1 {Pr : Nat → sf_St → Int32 → Int32 → Int32 → Prop} {τ σ : sf_St} {u0 u1 u2 : Int32} (h : fn_R_X7_search Pr τ 1 σ u0 u1 u2) : tr_R_X7_search_1 Pr τ σ u0 u1 u2 := h
theorem mo_R_X7_search_1 {Pr Pr' : Nat → sf_St → Int32 → Int32 → Int32 → Prop} {τ σ : sf_St} {u0 u1 u2 : Int32} (hP : ∀ (t : Nat) (σ : sf_St) (u0 u1 u2 : Int32), Pr t σ u0 u1 u2 → Pr' t σ u0 u1 u2) (h : tr_R_X7_search_1 Pr τ σ u0 u1 u2) : tr_R_X7_search_1 Pr' τ σ u0 u1 u2 := by
  unfold tr_R_X7_search_1 at h ⊢
  refine sf_mif (fun h => ?_) (fun h => ?_) h
  · exact h
  · refine sf_mif (fun h => ?_) (fun h => ?_) h
    · exact hP _ _ _ _ _ h
    · exact hP _ _ _ _ _ h
theorem ru_R_X7_search_1 {τ σ : sf_St} {u0 u1 u2 : Int32} (h : tr_R_X7_search_1 (fun t σ u0 u1 u2 => Rn_R_X7_search t σ u0 u1 u2 τ) τ σ u0 u1 u2) : Rn_R_X7_search 1 σ u0 u1 u2 τ := fun Pr hP => hP 1 σ u0 u1 u2 (mo_R_X7_search_1 (fun _ _ _ _ _ h => h Pr hP) h)
theorem fe_R_X7_search_2 {Pr : Nat → sf_St → Int32 → Int32 → Int32 → Prop} {τ σ : sf_St} {u0 u1 u2 : Int32} (h : fn_R_X7_search Pr τ 2 σ u0 u1 u2) : tr_R_X7_search_2 Pr τ σ u0 u1 u2 := h
theorem mo_R_X7_search_2 {Pr Pr' : Nat → sf_St → Int32 → Int32 → Int32 → Prop} {τ σ : sf_St} {u0 u1 u2 : Int32} (hP : ∀ (t : Nat) (σ : sf_St) (u0 u1 u2 : Int32), Pr t σ u0 u1 u2 → Pr' t σ u0 u1 u2) (h : tr_R_X7_search_2 Pr τ σ u0 u1 u2) : tr_R_X7_search_2 Pr' τ σ u0 u1 u2 := by
  unfold tr_R_X7_search_2 at h ⊢
  refine sf_mif (fun h => ?_) (fun h => ?_) h
  · refine sf_mif (fun h => ?_) (fun h => ?_) h
    · intro τ11 hτ11
      have h := h τ11 hτ11
      refine sf_mif (fun h => ?_) (fun h => ?_) h
      · refine Exists.imp (fun _ h => Exists.imp (fun _ h => And.imp id (fun h => ?_) h) h) h
        exact hP _ _ _ _ _ h
      · refine Exists.imp (fun _ h => Exists.imp (fun _ h => And.imp id (fun h => ?_) h) h) h
        refine And.imp id (fun h => ?_) h
        intro τ20 hτ20
        have h := h τ20 hτ20
        intro τ21 hτ21
        have h := h τ21 hτ21
        refine Exists.imp (fun _ h => Exists.imp (fun _ h => And.imp id (fun h => ?_) h) h) h
        exact hP _ _ _ _ _ h
    · intro τ25 hτ25
      have h := h τ25 hτ25
      refine sf_mif (fun h => ?_) (fun h => ?_) h
      · refine Exists.imp (fun _ h => Exists.imp (fun _ h => And.imp id (fun h => ?_) h) h) h
        exact hP _ _ _ _ _ h
      · refine Exists.imp (fun _ h => Exists.imp (fun _ h => And.imp id (fun h => ?_) h) h) h
        refine And.imp id (fun h => ?_) h
        intro τ34 hτ34
        have h := h τ34 hτ34
        intro τ35 hτ35
        have h := h τ35 hτ35
        refine Exists.imp (fun _ h => Exists.imp (fun _ h => And.imp id (fun h => ?_) h) h) h
        exact hP _ _ _ _ _ h
  · refine sf_mif (fun h => ?_) (fun h => ?_) h
    · refine sf_mif (fun h => ?_) (fun h => ?_) h
      · intro τ41 hτ41
        have h := h τ41 hτ41
        refine sf_mif (fun h => ?_) (fun h => ?_) h
        · refine Exists.imp (fun _ h => Exists.imp (fun _ h => And.imp id (fun h => ?_) h) h) h
          exact hP _ _ _ _ _ h
        · refine Exists.imp (fun _ h => Exists.imp (fun _ h => And.imp id (fun h => ?_) h) h) h
          refine And.imp id (fun h => ?_) h
          intro τ50 hτ50
          have h := h τ50 hτ50
          intro τ51 hτ51
          have h := h τ51 hτ51
          refine Exists.imp (fun _ h => Exists.imp (fun _ h => And.imp id (fun h => ?_) h) h) h
          exact hP _ _ _ _ _ h
      · intro τ55 hτ55
        have h := h τ55 hτ55
        refine sf_mif (fun h => ?_) (fun h => ?_) h
        · refine Exists.imp (fun _ h => Exists.imp (fun _ h => And.imp id (fun h => ?_) h) h) h
          exact hP _ _ _ _ _ h
        · refine Exists.imp (fun _ h => Exists.imp (fun _ h => And.imp id (fun h => ?_) h) h) h
          refine And.imp id (fun h => ?_) h
          intro τ64 hτ64
          have h := h τ64 hτ64
          intro τ65 hτ65
          have h := h τ65 hτ65
          refine Exists.imp (fun _ h => Exists.imp (fun _ h => And.imp id (fun h => ?_) h) h) h
          exact hP _ _ _ _ _ h
    · refine Exists.imp (fun _ h => Exists.imp (fun _ h => And.imp id (fun h => ?_) h) h) h
      refine sf_mif (fun h => ?_) (fun h => ?_) h
      · refine sf_mif (fun h => ?_) (fun h => ?_) h
        · refine And.imp id (fun h => ?_) h
          refine And.imp id (fun h => ?_) h
          intro τ76 hτ76
          have h := h τ76 hτ76
          intro y77 hy77
          have h := h y77 hy77
          exact hP _ _ _ _ _ h
        · refine And.imp id (fun h => ?_) h
          intro τ79 hτ79
          have h := h τ79 hτ79
          intro y80 hy80
          have h := h y80 hy80
          exact hP _ _ _ _ _ h
      · refine And.imp id (fun h => ?_) h
        refine sf_mif (fun h => ?_) (fun h => ?_) h
        · refine sf_mif (fun h => ?_) (fun h => ?_) h
          · refine And.imp id (fun h => ?_) h
            refine And.imp id (fun h => ?_) h
            intro τ104 hτ104
            have h := h τ104 hτ104
            intro y105 hy105
            have h := h y105 hy105
            exact hP _ _ _ _ _ h
          · refine And.imp id (fun h => ?_) h
            intro τ107 hτ107
            have h := h τ107 hτ107
            intro y108 hy108
            have h := h y108 hy108
            exact hP _ _ _ _ _ h
        · refine And.imp id (fun h => ?_) h
          refine sf_mif (fun h => ?_) (fun h => ?_) h
          · refine sf_mif (fun h => ?_) (fun h => ?_) h
            · refine And.imp id (fun h => ?_) h
              refine And.imp id (fun h => ?_) h
              intro τ88 hτ88
              have h := h τ88 hτ88
              intro y89 hy89
              have h := h y89 hy89
              exact hP _ _ _ _ _ h
            · refine And.imp id (fun h => ?_) h
              intro τ91 hτ91
              have h := h τ91 hτ91
              intro y92 hy92
              have h := h y92 hy92
              exact hP _ _ _ _ _ h
          · refine sf_mif (fun h => ?_) (fun h => ?_) h
            · refine And.imp id (fun h => ?_) h
              refine And.imp id (fun h => ?_) h
              intro τ96 hτ96
              have h := h τ96 hτ96
              intro y97 hy97
              have h := h y97 hy97
              exact hP _ _ _ _ _ h
            · refine And.imp id (fun h => ?_) h
              intro τ99 hτ99
              have h := h τ99 hτ99
              intro y100 hy100
              have h := h y100 hy100
              exact hP _ _ _ _ _ h
theorem ru_R_X7_search_2 {τ σ : sf_St} {u0 u1 u2 : Int32} (h : tr_R_X7_search_2 (fun t σ u0 u1 u2 => Rn_R_X7_search t σ u0 u1 u2 τ) τ σ u0 u1 u2) : Rn_R_X7_search 2 σ u0 u1 u2 τ := fun Pr hP => hP 2 σ u0 u1 u2 (mo_R_X7_search_2 (fun _ _ _ _ _ h => h Pr hP) h)
set_option maxHeartbeats 4000000 in
set_option maxRecDepth 100000 in
theorem c_X7_search {l : Launch} {D : va_G} {q : Nat → Nat} {dA : Nat → ClassId}  (hq : sf_inj q KM) {σ τ : sf_St} (h : R_X7_search σ  τ) : sf_Mv l yX7_search wsX7_search ({ frames := 3, cells := 0, slots := 0, locals := 67 }) D vwCl q dA KM sf_EM [.ref (q 0)] σ τ := by
  refine sf_metv (cc := cX7_search) (maxL := 5) (ret := none) (own := RX7) (by decide +kernel) rfl rfl hq sf_EMk (Nat.le_of_ble_eq_true rfl) ?_
  intro p e s m args below meth c X
  refine sf_loc (lv' := [(0, .ref (q 0))]) [0] rfl ?_
  refine h (fun t σ u0 u1 u2 => match t with
    | 0 => sf_G p l e (headSpec wsX7_search ({ frames := 3, cells := 0, slots := 0, locals := 67 })).room s m args below meth c (sf_Qv D vwCl q dA KM sf_EM below args s τ) 5 D vwCl q dA KM σ 0 [(0, .ref (q 0))] []
    | 1 => sf_G p l e (headSpec wsX7_search ({ frames := 3, cells := 0, slots := 0, locals := 67 })).room s m args below meth c (sf_Qv D vwCl q dA KM sf_EM below args s τ) 5 D vwCl q dA KM σ 35 [(0, .ref (q 0)), (1, .int u0)] []
    | 2 => sf_G p l e (headSpec wsX7_search ({ frames := 3, cells := 0, slots := 0, locals := 67 })).room s m args below meth c (sf_Qv D vwCl q dA KM sf_EM below args s τ) 5 D vwCl q dA KM σ 54 [(0, .ref (q 0)), (1, .int u0), (2, .int u1), (3, .int u2)] []
    | _ => True) ?_
  intro t σ u0 u1 u2 h
  match t, h with
  | 0, h =>
      replace h := fe_R_X7_search_0 h
      unfold tr_R_X7_search_0 at h
      show sf_G p l e (headSpec wsX7_search ({ frames := 3, cells := 0, slots := 0, locals := 67 })).room s m args below meth c (sf_Qv D vwCl q dA KM sf_EM below args s τ) 5 D vwCl q dA KM σ 0 [(0, .ref (q 0))] []
      refine sf_aload_n (i := 0) (j := 0) X dX7_search_0 rfl rfl rfl ?_
      refine sf_getI (C := RX7) (T := TX7) (N := 23) (ci := 7) (j := 11) X (fun w h => sf_memc (inX7 w h)) rfl rfl (by decide) (X.1.2.2.2.2 _ (sf_memc tw_642)) (fun _ h9 => h9) rfl dX7_search_1 rfl ?_
      refine sf_if_eq (tgt := 8) X dX7_search_4 rfl rfl (fun c1 => ?_) (fun c1 => ?_)
      · have h := sf_ift c1 h
        refine sf_aload_n (i := 0) (j := 0) X dX7_search_8 rfl rfl rfl ?_
        refine sf_iconst (v := 1) X dX7_search_9 sf_ic_1 rfl ?_
        refine sf_putI (C := RX7) (T := TX7) (N := 23) (ci := 7) (j := 11) (ty := .boolean) X (fun w h => sf_memc (inX7 w h)) rfl rfl (by decide) (X.1.2.2.2.2 _ (sf_memc tw_642)) (fun _ h9 => h9) tyX7 tyX7_ok nmX7 rfl (by decide +kernel) rfl rfl rfl dX7_search_10 rfl (fun τ2 hτ2 => ?_)
        have h := h τ2 hτ2
        refine sf_aload_n (i := 0) (j := 0) X dX7_search_13 rfl rfl rfl ?_
        obtain ⟨τ4, hR3, h⟩ := h
        refine sf_callVv (As := []) (rest := []) (cv := (RX7, TX7, 23)) X rfl rfl (c_X7_ownNumbers hq hR3) (cwV 0 X.1.2.2.2.2 (sf_gV tw_755 tw_757 tw_19 tw_48 tw_758) rfl rfl rfl ⟨rfl, hd_X7_ownNumbers⟩ ⟨Nat.le_of_ble_eq_true rfl, Nat.le_of_ble_eq_true rfl⟩) rfl rfl (Nat.le_of_ble_eq_true rfl) dX7_search_14 rfl ?_
        refine sf_aload_n (i := 0) (j := 0) X dX7_search_17 rfl rfl rfl ?_
        refine sf_iconst (v := 0) X dX7_search_18 sf_ic_0 rfl ?_
        refine sf_putI (C := RX7) (T := TX7) (N := 23) (ci := 7) (j := 13) (ty := .int) X (fun w h => sf_memc (inX7 w h)) rfl rfl (by decide) (X.1.2.2.2.2 _ (sf_memc tw_644)) (fun _ h9 => h9) tyX7 tyX7_ok nmX7 rfl (by decide +kernel) rfl rfl rfl dX7_search_19 rfl (fun τ5 hτ5 => ?_)
        have h := h τ5 hτ5
        refine sf_aload_n (i := 0) (j := 0) X dX7_search_22 rfl rfl rfl ?_
        refine sf_getI (C := RX7) (T := TX7) (N := 23) (ci := 7) (j := 0) X (fun w h => sf_memc (inX7 w h)) rfl rfl (by decide) (X.1.2.2.2.2 _ (sf_memc tw_631)) (fun _ h9 => h9) rfl dX7_search_23 rfl ?_
        refine sf_if_le (tgt := 33) X dX7_search_26 rfl rfl (fun c6 => ?_) (fun c6 => ?_)
        · have h := sf_ift c6 h
          refine sf_iconst (v := 0) X dX7_search_33 sf_ic_0 rfl ?_
          refine sf_istore_n (i := 1) (lv' := [(1, .int (0 : Int32)), (0, .ref (q 0))]) X dX7_search_34 rfl (by decide) rfl rfl ?_
          refine sf_loc (lv' := [(0, .ref (q 0)), (1, .int (0 : Int32))]) [1, 0] rfl ?_
          exact h
        · have h := sf_iff c6 h
          refine sf_iconst (v := 1) X dX7_search_29 sf_ic_1 rfl ?_
          refine sf_goto (tgt := 34) X dX7_search_30 rfl ?_
          refine sf_istore_n (i := 1) (lv' := [(1, .int (1 : Int32)), (0, .ref (q 0))]) X dX7_search_34 rfl (by decide) rfl rfl ?_
          refine sf_loc (lv' := [(0, .ref (q 0)), (1, .int (1 : Int32))]) [1, 0] rfl ?_
          exact h
      · have h := sf_iff c1 h
        exact sf_retv X h dX7_search_7
  | 1, h =>
      replace h := fe_R_X7_search_1 h
      unfold tr_R_X7_search_1 at h
      show sf_G p l e (headSpec wsX7_search ({ frames := 3, cells := 0, slots := 0, locals := 67 })).room s m args below meth c (sf_Qv D vwCl q dA KM sf_EM below args s τ) 5 D vwCl q dA KM σ 35 [(0, .ref (q 0)), (1, .int u0)] []
      refine sf_iload_n (i := 1) (j := 1) X dX7_search_35 rfl rfl rfl ?_
      refine sf_if_eq (tgt := 189) X dX7_search_36 rfl rfl (fun c7 => ?_) (fun c7 => ?_)
      · have h := sf_ift c7 h
        exact sf_retv X h dX7_search_189
      · have h := sf_iff c7 h
        refine sf_aload_n (i := 0) (j := 0) X dX7_search_39 rfl rfl rfl ?_
        refine sf_getI (C := RX7) (T := TX7) (N := 23) (ci := 7) (j := 13) X (fun w h => sf_memc (inX7 w h)) rfl rfl (by decide) (X.1.2.2.2.2 _ (sf_memc tw_644)) (fun _ h9 => h9) rfl dX7_search_40 rfl ?_
        refine sf_if_ne (tgt := 50) X dX7_search_43 rfl rfl (fun c8 => ?_) (fun c8 => ?_)
        · have h := sf_iff c8 h
          refine sf_iconst (v := 0) X dX7_search_50 sf_ic_0 rfl ?_
          refine sf_istore_n (i := 2) (lv' := [(2, .int (0 : Int32)), (0, .ref (q 0)), (1, .int u0)]) X dX7_search_51 rfl (by decide) rfl rfl ?_
          refine sf_iconst (v := 0) X dX7_search_52 sf_ic_0 rfl ?_
          refine sf_istore_n (i := 3) (lv' := [(3, .int (0 : Int32)), (2, .int (0 : Int32)), (0, .ref (q 0)), (1, .int u0)]) X dX7_search_53 rfl (by decide) rfl rfl ?_
          refine sf_loc (lv' := [(0, .ref (q 0)), (1, .int u0), (2, .int (0 : Int32)), (3, .int (0 : Int32))]) [2, 3, 1, 0] rfl ?_
          exact h
        · have h := sf_ift c8 h
          refine sf_iconst (v := (-1)) X dX7_search_46 sf_ic_m1 rfl ?_
          refine sf_goto (tgt := 51) X dX7_search_47 rfl ?_
          refine sf_istore_n (i := 2) (lv' := [(2, .int (-1 : Int32)), (0, .ref (q 0)), (1, .int u0)]) X dX7_search_51 rfl (by decide) rfl rfl ?_
          refine sf_iconst (v := 0) X dX7_search_52 sf_ic_0 rfl ?_
          refine sf_istore_n (i := 3) (lv' := [(3, .int (0 : Int32)), (2, .int (-1 : Int32)), (0, .ref (q 0)), (1, .int u0)]) X dX7_search_53 rfl (by decide) rfl rfl ?_
          refine sf_loc (lv' := [(0, .ref (q 0)), (1, .int u0), (2, .int (-1 : Int32)), (3, .int (0 : Int32))]) [2, 3, 1, 0] rfl ?_
          exact h
  | 2, h =>
      replace h := fe_R_X7_search_2 h
      unfold tr_R_X7_search_2 at h
      show sf_G p l e (headSpec wsX7_search ({ frames := 3, cells := 0, slots := 0, locals := 67 })).room s m args below meth c (sf_Qv D vwCl q dA KM sf_EM below args s τ) 5 D vwCl q dA KM σ 54 [(0, .ref (q 0)), (1, .int u0), (2, .int u1), (3, .int u2)] []
      refine sf_iload_n (i := 3) (j := 3) X dX7_search_54 rfl rfl rfl ?_
      refine sf_aload_n (i := 0) (j := 0) X dX7_search_55 rfl rfl rfl ?_
      refine sf_getI (C := RX7) (T := TX7) (N := 23) (ci := 7) (j := 0) X (fun w h => sf_memc (inX7 w h)) rfl rfl (by decide) (X.1.2.2.2.2 _ (sf_memc tw_631)) (fun _ h9 => h9) rfl dX7_search_56 rfl ?_
      refine sf_icmp_ge (tgt := 137) X dX7_search_59 rfl rfl (fun c9 => ?_) (fun c9 => ?_)
      · have h := sf_ift c9 h
        refine sf_aload_n (i := 0) (j := 0) X dX7_search_137 rfl rfl rfl ?_
        refine sf_iload_n (i := 2) (j := 2) X dX7_search_138 rfl rfl rfl ?_
        refine sf_if_ge (tgt := 146) X dX7_search_139 rfl rfl (fun c10 => ?_) (fun c10 => ?_)
        · have h := sf_ift c10 h
          refine sf_aload_n (i := 0) (j := 0) X dX7_search_146 rfl rfl rfl ?_
          refine sf_getI (C := RX7) (T := TX7) (N := 23) (ci := 7) (j := 13) X (fun w h => sf_memc (inX7 w h)) rfl rfl (by decide) (X.1.2.2.2.2 _ (sf_memc tw_644)) (fun _ h9 => h9) rfl dX7_search_147 rfl ?_
          refine sf_putI (C := RX7) (T := TX7) (N := 23) (ci := 7) (j := 13) (ty := .int) X (fun w h => sf_memc (inX7 w h)) rfl rfl (by decide) (X.1.2.2.2.2 _ (sf_memc tw_644)) (fun _ h9 => h9) tyX7 tyX7_ok nmX7 rfl (by decide +kernel) rfl rfl rfl dX7_search_150 rfl (fun τ11 hτ11 => ?_)
          have h := h τ11 hτ11
          refine sf_iload_n (i := 2) (j := 2) X dX7_search_153 rfl rfl rfl ?_
          refine sf_iconst (v := 1) X dX7_search_154 sf_ic_1 rfl ?_
          refine sf_icmp_ge (tgt := 181) X dX7_search_155 rfl rfl (fun c12 => ?_) (fun c12 => ?_)
          · have h := sf_ift c12 h
            refine sf_aload_n (i := 0) (j := 0) X dX7_search_181 rfl rfl rfl ?_
            obtain ⟨r15, τ14, hR13, h⟩ := h
            refine sf_callVi (As := []) (rest := []) (cv := (RX7, TX7, 23)) X rfl rfl (c_X7_nextOrder hq hR13) (cwV 0 X.1.2.2.2.2 (sf_gV tw_819 tw_821 tw_32 tw_48 tw_822) rfl rfl rfl ⟨rfl, hd_X7_nextOrder⟩ ⟨Nat.le_of_ble_eq_true rfl, Nat.le_of_ble_eq_true rfl⟩) rfl rfl (Nat.le_of_ble_eq_true rfl) dX7_search_182 rfl ?_
            refine sf_istore_n (i := 1) (lv' := [(1, .int r15), (0, .ref (q 0)), (2, .int u1), (3, .int u2)]) X dX7_search_185 rfl (by decide) rfl rfl ?_
            refine sf_goto (tgt := 35) X dX7_search_186 rfl ?_
            refine sf_loc (lv' := [(0, .ref (q 0)), (1, .int r15)]) [1, 0] rfl ?_
            exact h
          · have h := sf_iff c12 h
            refine sf_aload_n (i := 0) (j := 0) X dX7_search_158 rfl rfl rfl ?_
            refine sf_getR (C := RX7) (T := TX7) (N := 23) (ci := 7) (j := 14) (k' := 11) X (fun w h => sf_memc (inX7 w h)) rfl rfl (by decide) (X.1.2.2.2.2 _ (sf_memc tw_645)) (fun _ h9 => h9) rfl dX7_search_159 rfl ?_
            refine sf_aload_n (i := 0) (j := 0) X dX7_search_162 rfl rfl rfl ?_
            refine sf_getI (C := RX7) (T := TX7) (N := 23) (ci := 7) (j := 13) X (fun w h => sf_memc (inX7 w h)) rfl rfl (by decide) (X.1.2.2.2.2 _ (sf_memc tw_644)) (fun _ h9 => h9) rfl dX7_search_163 rfl ?_
            refine sf_aload_n (i := 0) (j := 0) X dX7_search_166 rfl rfl rfl ?_
            obtain ⟨r18, τ17, hR16, h⟩ := h
            refine sf_callVi (As := []) (rest := [.int (τ11 0 13), .ref (q 11)]) (cv := (RX7, TX7, 23)) X rfl rfl (c_X7_packed hq hR16) (cwV 0 X.1.2.2.2.2 (sf_gV tw_815 tw_817 tw_31 tw_48 tw_818) rfl rfl rfl ⟨rfl, hd_X7_packed⟩ ⟨Nat.le_of_ble_eq_true rfl, Nat.le_of_ble_eq_true rfl⟩) rfl rfl (Nat.le_of_ble_eq_true rfl) dX7_search_167 rfl ?_
            obtain ⟨b19, h⟩ := h
            refine sf_iast X rfl b19 dX7_search_170 rfl (fun τ20 hτ20 => ?_)
            have h := h τ20 hτ20
            refine sf_aload_n (i := 0) (j := 0) X dX7_search_171 rfl rfl rfl ?_
            refine sf_dup X dX7_search_172 rfl rfl ?_
            refine sf_getI (C := RX7) (T := TX7) (N := 23) (ci := 7) (j := 13) X (fun w h => sf_memc (inX7 w h)) rfl rfl (by decide) (X.1.2.2.2.2 _ (sf_memc tw_644)) (fun _ h9 => h9) rfl dX7_search_173 rfl ?_
            refine sf_iconst (v := 1) X dX7_search_176 sf_ic_1 rfl ?_
            refine sf_iadd X dX7_search_177 rfl ?_
            refine sf_putI (C := RX7) (T := TX7) (N := 23) (ci := 7) (j := 13) (ty := .int) X (fun w h => sf_memc (inX7 w h)) rfl rfl (by decide) (X.1.2.2.2.2 _ (sf_memc tw_644)) (fun _ h9 => h9) tyX7 tyX7_ok nmX7 rfl (by decide +kernel) rfl rfl rfl dX7_search_178 rfl (fun τ21 hτ21 => ?_)
            have h := h τ21 hτ21
            refine sf_aload_n (i := 0) (j := 0) X dX7_search_181 rfl rfl rfl ?_
            obtain ⟨r24, τ23, hR22, h⟩ := h
            refine sf_callVi (As := []) (rest := []) (cv := (RX7, TX7, 23)) X rfl rfl (c_X7_nextOrder hq hR22) (cwV 0 X.1.2.2.2.2 (sf_gV tw_819 tw_821 tw_32 tw_48 tw_822) rfl rfl rfl ⟨rfl, hd_X7_nextOrder⟩ ⟨Nat.le_of_ble_eq_true rfl, Nat.le_of_ble_eq_true rfl⟩) rfl rfl (Nat.le_of_ble_eq_true rfl) dX7_search_182 rfl ?_
            refine sf_istore_n (i := 1) (lv' := [(1, .int r24), (0, .ref (q 0)), (2, .int u1), (3, .int u2)]) X dX7_search_185 rfl (by decide) rfl rfl ?_
            refine sf_goto (tgt := 35) X dX7_search_186 rfl ?_
            refine sf_loc (lv' := [(0, .ref (q 0)), (1, .int r24)]) [1, 0] rfl ?_
            exact h
        · have h := sf_iff c10 h
          refine sf_iconst (v := 0) X dX7_search_142 sf_ic_0 rfl ?_
          refine sf_goto (tgt := 150) X dX7_search_143 rfl ?_
          refine sf_putI (C := RX7) (T := TX7) (N := 23) (ci := 7) (j := 13) (ty := .int) X (fun w h => sf_memc (inX7 w h)) rfl rfl (by decide) (X.1.2.2.2.2 _ (sf_memc tw_644)) (fun _ h9 => h9) tyX7 tyX7_ok nmX7 rfl (by decide +kernel) rfl rfl rfl dX7_search_150 rfl (fun τ25 hτ25 => ?_)
          have h := h τ25 hτ25
          refine sf_iload_n (i := 2) (j := 2) X dX7_search_153 rfl rfl rfl ?_
          refine sf_iconst (v := 1) X dX7_search_154 sf_ic_1 rfl ?_
          refine sf_icmp_ge (tgt := 181) X dX7_search_155 rfl rfl (fun c26 => ?_) (fun c26 => ?_)
          · have h := sf_ift c26 h
            refine sf_aload_n (i := 0) (j := 0) X dX7_search_181 rfl rfl rfl ?_
            obtain ⟨r29, τ28, hR27, h⟩ := h
            refine sf_callVi (As := []) (rest := []) (cv := (RX7, TX7, 23)) X rfl rfl (c_X7_nextOrder hq hR27) (cwV 0 X.1.2.2.2.2 (sf_gV tw_819 tw_821 tw_32 tw_48 tw_822) rfl rfl rfl ⟨rfl, hd_X7_nextOrder⟩ ⟨Nat.le_of_ble_eq_true rfl, Nat.le_of_ble_eq_true rfl⟩) rfl rfl (Nat.le_of_ble_eq_true rfl) dX7_search_182 rfl ?_
            refine sf_istore_n (i := 1) (lv' := [(1, .int r29), (0, .ref (q 0)), (2, .int u1), (3, .int u2)]) X dX7_search_185 rfl (by decide) rfl rfl ?_
            refine sf_goto (tgt := 35) X dX7_search_186 rfl ?_
            refine sf_loc (lv' := [(0, .ref (q 0)), (1, .int r29)]) [1, 0] rfl ?_
            exact h
          · have h := sf_iff c26 h
            refine sf_aload_n (i := 0) (j := 0) X dX7_search_158 rfl rfl rfl ?_
            refine sf_getR (C := RX7) (T := TX7) (N := 23) (ci := 7) (j := 14) (k' := 11) X (fun w h => sf_memc (inX7 w h)) rfl rfl (by decide) (X.1.2.2.2.2 _ (sf_memc tw_645)) (fun _ h9 => h9) rfl dX7_search_159 rfl ?_
            refine sf_aload_n (i := 0) (j := 0) X dX7_search_162 rfl rfl rfl ?_
            refine sf_getI (C := RX7) (T := TX7) (N := 23) (ci := 7) (j := 13) X (fun w h => sf_memc (inX7 w h)) rfl rfl (by decide) (X.1.2.2.2.2 _ (sf_memc tw_644)) (fun _ h9 => h9) rfl dX7_search_163 rfl ?_
            refine sf_aload_n (i := 0) (j := 0) X dX7_search_166 rfl rfl rfl ?_
            obtain ⟨r32, τ31, hR30, h⟩ := h
            refine sf_callVi (As := []) (rest := [.int (τ25 0 13), .ref (q 11)]) (cv := (RX7, TX7, 23)) X rfl rfl (c_X7_packed hq hR30) (cwV 0 X.1.2.2.2.2 (sf_gV tw_815 tw_817 tw_31 tw_48 tw_818) rfl rfl rfl ⟨rfl, hd_X7_packed⟩ ⟨Nat.le_of_ble_eq_true rfl, Nat.le_of_ble_eq_true rfl⟩) rfl rfl (Nat.le_of_ble_eq_true rfl) dX7_search_167 rfl ?_
            obtain ⟨b33, h⟩ := h
            refine sf_iast X rfl b33 dX7_search_170 rfl (fun τ34 hτ34 => ?_)
            have h := h τ34 hτ34
            refine sf_aload_n (i := 0) (j := 0) X dX7_search_171 rfl rfl rfl ?_
            refine sf_dup X dX7_search_172 rfl rfl ?_
            refine sf_getI (C := RX7) (T := TX7) (N := 23) (ci := 7) (j := 13) X (fun w h => sf_memc (inX7 w h)) rfl rfl (by decide) (X.1.2.2.2.2 _ (sf_memc tw_644)) (fun _ h9 => h9) rfl dX7_search_173 rfl ?_
            refine sf_iconst (v := 1) X dX7_search_176 sf_ic_1 rfl ?_
            refine sf_iadd X dX7_search_177 rfl ?_
            refine sf_putI (C := RX7) (T := TX7) (N := 23) (ci := 7) (j := 13) (ty := .int) X (fun w h => sf_memc (inX7 w h)) rfl rfl (by decide) (X.1.2.2.2.2 _ (sf_memc tw_644)) (fun _ h9 => h9) tyX7 tyX7_ok nmX7 rfl (by decide +kernel) rfl rfl rfl dX7_search_178 rfl (fun τ35 hτ35 => ?_)
            have h := h τ35 hτ35
            refine sf_aload_n (i := 0) (j := 0) X dX7_search_181 rfl rfl rfl ?_
            obtain ⟨r38, τ37, hR36, h⟩ := h
            refine sf_callVi (As := []) (rest := []) (cv := (RX7, TX7, 23)) X rfl rfl (c_X7_nextOrder hq hR36) (cwV 0 X.1.2.2.2.2 (sf_gV tw_819 tw_821 tw_32 tw_48 tw_822) rfl rfl rfl ⟨rfl, hd_X7_nextOrder⟩ ⟨Nat.le_of_ble_eq_true rfl, Nat.le_of_ble_eq_true rfl⟩) rfl rfl (Nat.le_of_ble_eq_true rfl) dX7_search_182 rfl ?_
            refine sf_istore_n (i := 1) (lv' := [(1, .int r38), (0, .ref (q 0)), (2, .int u1), (3, .int u2)]) X dX7_search_185 rfl (by decide) rfl rfl ?_
            refine sf_goto (tgt := 35) X dX7_search_186 rfl ?_
            refine sf_loc (lv' := [(0, .ref (q 0)), (1, .int r38)]) [1, 0] rfl ?_
            exact h
      · have h := sf_iff c9 h
        refine sf_iload_n (i := 2) (j := 2) X dX7_search_62 rfl rfl rfl ?_
        refine sf_iconst (v := 1) X dX7_search_63 sf_ic_1 rfl ?_
        refine sf_icmp_ge (tgt := 137) X dX7_search_64 rfl rfl (fun c39 => ?_) (fun c39 => ?_)
        · have h := sf_ift c39 h
          refine sf_aload_n (i := 0) (j := 0) X dX7_search_137 rfl rfl rfl ?_
          refine sf_iload_n (i := 2) (j := 2) X dX7_search_138 rfl rfl rfl ?_
          refine sf_if_ge (tgt := 146) X dX7_search_139 rfl rfl (fun c40 => ?_) (fun c40 => ?_)
          · have h := sf_ift c40 h
            refine sf_aload_n (i := 0) (j := 0) X dX7_search_146 rfl rfl rfl ?_
            refine sf_getI (C := RX7) (T := TX7) (N := 23) (ci := 7) (j := 13) X (fun w h => sf_memc (inX7 w h)) rfl rfl (by decide) (X.1.2.2.2.2 _ (sf_memc tw_644)) (fun _ h9 => h9) rfl dX7_search_147 rfl ?_
            refine sf_putI (C := RX7) (T := TX7) (N := 23) (ci := 7) (j := 13) (ty := .int) X (fun w h => sf_memc (inX7 w h)) rfl rfl (by decide) (X.1.2.2.2.2 _ (sf_memc tw_644)) (fun _ h9 => h9) tyX7 tyX7_ok nmX7 rfl (by decide +kernel) rfl rfl rfl dX7_search_150 rfl (fun τ41 hτ41 => ?_)
            have h := h τ41 hτ41
            refine sf_iload_n (i := 2) (j := 2) X dX7_search_153 rfl rfl rfl ?_
            refine sf_iconst (v := 1) X dX7_search_154 sf_ic_1 rfl ?_
            refine sf_icmp_ge (tgt := 181) X dX7_search_155 rfl rfl (fun c42 => ?_) (fun c42 => ?_)
            · have h := sf_ift c42 h
              refine sf_aload_n (i := 0) (j := 0) X dX7_search_181 rfl rfl rfl ?_
              obtain ⟨r45, τ44, hR43, h⟩ := h
              refine sf_callVi (As := []) (rest := []) (cv := (RX7, TX7, 23)) X rfl rfl (c_X7_nextOrder hq hR43) (cwV 0 X.1.2.2.2.2 (sf_gV tw_819 tw_821 tw_32 tw_48 tw_822) rfl rfl rfl ⟨rfl, hd_X7_nextOrder⟩ ⟨Nat.le_of_ble_eq_true rfl, Nat.le_of_ble_eq_true rfl⟩) rfl rfl (Nat.le_of_ble_eq_true rfl) dX7_search_182 rfl ?_
              refine sf_istore_n (i := 1) (lv' := [(1, .int r45), (0, .ref (q 0)), (2, .int u1), (3, .int u2)]) X dX7_search_185 rfl (by decide) rfl rfl ?_
              refine sf_goto (tgt := 35) X dX7_search_186 rfl ?_
              refine sf_loc (lv' := [(0, .ref (q 0)), (1, .int r45)]) [1, 0] rfl ?_
              exact h
            · have h := sf_iff c42 h
              refine sf_aload_n (i := 0) (j := 0) X dX7_search_158 rfl rfl rfl ?_
              refine sf_getR (C := RX7) (T := TX7) (N := 23) (ci := 7) (j := 14) (k' := 11) X (fun w h => sf_memc (inX7 w h)) rfl rfl (by decide) (X.1.2.2.2.2 _ (sf_memc tw_645)) (fun _ h9 => h9) rfl dX7_search_159 rfl ?_
              refine sf_aload_n (i := 0) (j := 0) X dX7_search_162 rfl rfl rfl ?_
              refine sf_getI (C := RX7) (T := TX7) (N := 23) (ci := 7) (j := 13) X (fun w h => sf_memc (inX7 w h)) rfl rfl (by decide) (X.1.2.2.2.2 _ (sf_memc tw_644)) (fun _ h9 => h9) rfl dX7_search_163 rfl ?_
              refine sf_aload_n (i := 0) (j := 0) X dX7_search_166 rfl rfl rfl ?_
              obtain ⟨r48, τ47, hR46, h⟩ := h
              refine sf_callVi (As := []) (rest := [.int (τ41 0 13), .ref (q 11)]) (cv := (RX7, TX7, 23)) X rfl rfl (c_X7_packed hq hR46) (cwV 0 X.1.2.2.2.2 (sf_gV tw_815 tw_817 tw_31 tw_48 tw_818) rfl rfl rfl ⟨rfl, hd_X7_packed⟩ ⟨Nat.le_of_ble_eq_true rfl, Nat.le_of_ble_eq_true rfl⟩) rfl rfl (Nat.le_of_ble_eq_true rfl) dX7_search_167 rfl ?_
              obtain ⟨b49, h⟩ := h
              refine sf_iast X rfl b49 dX7_search_170 rfl (fun τ50 hτ50 => ?_)
              have h := h τ50 hτ50
              refine sf_aload_n (i := 0) (j := 0) X dX7_search_171 rfl rfl rfl ?_
              refine sf_dup X dX7_search_172 rfl rfl ?_
              refine sf_getI (C := RX7) (T := TX7) (N := 23) (ci := 7) (j := 13) X (fun w h => sf_memc (inX7 w h)) rfl rfl (by decide) (X.1.2.2.2.2 _ (sf_memc tw_644)) (fun _ h9 => h9) rfl dX7_search_173 rfl ?_
              refine sf_iconst (v := 1) X dX7_search_176 sf_ic_1 rfl ?_
              refine sf_iadd X dX7_search_177 rfl ?_
              refine sf_putI (C := RX7) (T := TX7) (N := 23) (ci := 7) (j := 13) (ty := .int) X (fun w h => sf_memc (inX7 w h)) rfl rfl (by decide) (X.1.2.2.2.2 _ (sf_memc tw_644)) (fun _ h9 => h9) tyX7 tyX7_ok nmX7 rfl (by decide +kernel) rfl rfl rfl dX7_search_178 rfl (fun τ51 hτ51 => ?_)
              have h := h τ51 hτ51
              refine sf_aload_n (i := 0) (j := 0) X dX7_search_181 rfl rfl rfl ?_
              obtain ⟨r54, τ53, hR52, h⟩ := h
              refine sf_callVi (As := []) (rest := []) (cv := (RX7, TX7, 23)) X rfl rfl (c_X7_nextOrder hq hR52) (cwV 0 X.1.2.2.2.2 (sf_gV tw_819 tw_821 tw_32 tw_48 tw_822) rfl rfl rfl ⟨rfl, hd_X7_nextOrder⟩ ⟨Nat.le_of_ble_eq_true rfl, Nat.le_of_ble_eq_true rfl⟩) rfl rfl (Nat.le_of_ble_eq_true rfl) dX7_search_182 rfl ?_
              refine sf_istore_n (i := 1) (lv' := [(1, .int r54), (0, .ref (q 0)), (2, .int u1), (3, .int u2)]) X dX7_search_185 rfl (by decide) rfl rfl ?_
              refine sf_goto (tgt := 35) X dX7_search_186 rfl ?_
              refine sf_loc (lv' := [(0, .ref (q 0)), (1, .int r54)]) [1, 0] rfl ?_
              exact h
          · have h := sf_iff c40 h
            refine sf_iconst (v := 0) X dX7_search_142 sf_ic_0 rfl ?_
            refine sf_goto (tgt := 150) X dX7_search_143 rfl ?_
            refine sf_putI (C := RX7) (T := TX7) (N := 23) (ci := 7) (j := 13) (ty := .int) X (fun w h => sf_memc (inX7 w h)) rfl rfl (by decide) (X.1.2.2.2.2 _ (sf_memc tw_644)) (fun _ h9 => h9) tyX7 tyX7_ok nmX7 rfl (by decide +kernel) rfl rfl rfl dX7_search_150 rfl (fun τ55 hτ55 => ?_)
            have h := h τ55 hτ55
            refine sf_iload_n (i := 2) (j := 2) X dX7_search_153 rfl rfl rfl ?_
            refine sf_iconst (v := 1) X dX7_search_154 sf_ic_1 rfl ?_
            refine sf_icmp_ge (tgt := 181) X dX7_search_155 rfl rfl (fun c56 => ?_) (fun c56 => ?_)
            · have h := sf_ift c56 h
              refine sf_aload_n (i := 0) (j := 0) X dX7_search_181 rfl rfl rfl ?_
              obtain ⟨r59, τ58, hR57, h⟩ := h
              refine sf_callVi (As := []) (rest := []) (cv := (RX7, TX7, 23)) X rfl rfl (c_X7_nextOrder hq hR57) (cwV 0 X.1.2.2.2.2 (sf_gV tw_819 tw_821 tw_32 tw_48 tw_822) rfl rfl rfl ⟨rfl, hd_X7_nextOrder⟩ ⟨Nat.le_of_ble_eq_true rfl, Nat.le_of_ble_eq_true rfl⟩) rfl rfl (Nat.le_of_ble_eq_true rfl) dX7_search_182 rfl ?_
              refine sf_istore_n (i := 1) (lv' := [(1, .int r59), (0, .ref (q 0)), (2, .int u1), (3, .int u2)]) X dX7_search_185 rfl (by decide) rfl rfl ?_
              refine sf_goto (tgt := 35) X dX7_search_186 rfl ?_
              refine sf_loc (lv' := [(0, .ref (q 0)), (1, .int r59)]) [1, 0] rfl ?_
              exact h
            · have h := sf_iff c56 h
              refine sf_aload_n (i := 0) (j := 0) X dX7_search_158 rfl rfl rfl ?_
              refine sf_getR (C := RX7) (T := TX7) (N := 23) (ci := 7) (j := 14) (k' := 11) X (fun w h => sf_memc (inX7 w h)) rfl rfl (by decide) (X.1.2.2.2.2 _ (sf_memc tw_645)) (fun _ h9 => h9) rfl dX7_search_159 rfl ?_
              refine sf_aload_n (i := 0) (j := 0) X dX7_search_162 rfl rfl rfl ?_
              refine sf_getI (C := RX7) (T := TX7) (N := 23) (ci := 7) (j := 13) X (fun w h => sf_memc (inX7 w h)) rfl rfl (by decide) (X.1.2.2.2.2 _ (sf_memc tw_644)) (fun _ h9 => h9) rfl dX7_search_163 rfl ?_
              refine sf_aload_n (i := 0) (j := 0) X dX7_search_166 rfl rfl rfl ?_
              obtain ⟨r62, τ61, hR60, h⟩ := h
              refine sf_callVi (As := []) (rest := [.int (τ55 0 13), .ref (q 11)]) (cv := (RX7, TX7, 23)) X rfl rfl (c_X7_packed hq hR60) (cwV 0 X.1.2.2.2.2 (sf_gV tw_815 tw_817 tw_31 tw_48 tw_818) rfl rfl rfl ⟨rfl, hd_X7_packed⟩ ⟨Nat.le_of_ble_eq_true rfl, Nat.le_of_ble_eq_true rfl⟩) rfl rfl (Nat.le_of_ble_eq_true rfl) dX7_search_167 rfl ?_
              obtain ⟨b63, h⟩ := h
              refine sf_iast X rfl b63 dX7_search_170 rfl (fun τ64 hτ64 => ?_)
              have h := h τ64 hτ64
              refine sf_aload_n (i := 0) (j := 0) X dX7_search_171 rfl rfl rfl ?_
              refine sf_dup X dX7_search_172 rfl rfl ?_
              refine sf_getI (C := RX7) (T := TX7) (N := 23) (ci := 7) (j := 13) X (fun w h => sf_memc (inX7 w h)) rfl rfl (by decide) (X.1.2.2.2.2 _ (sf_memc tw_644)) (fun _ h9 => h9) rfl dX7_search_173 rfl ?_
              refine sf_iconst (v := 1) X dX7_search_176 sf_ic_1 rfl ?_
              refine sf_iadd X dX7_search_177 rfl ?_
              refine sf_putI (C := RX7) (T := TX7) (N := 23) (ci := 7) (j := 13) (ty := .int) X (fun w h => sf_memc (inX7 w h)) rfl rfl (by decide) (X.1.2.2.2.2 _ (sf_memc tw_644)) (fun _ h9 => h9) tyX7 tyX7_ok nmX7 rfl (by decide +kernel) rfl rfl rfl dX7_search_178 rfl (fun τ65 hτ65 => ?_)
              have h := h τ65 hτ65
              refine sf_aload_n (i := 0) (j := 0) X dX7_search_181 rfl rfl rfl ?_
              obtain ⟨r68, τ67, hR66, h⟩ := h
              refine sf_callVi (As := []) (rest := []) (cv := (RX7, TX7, 23)) X rfl rfl (c_X7_nextOrder hq hR66) (cwV 0 X.1.2.2.2.2 (sf_gV tw_819 tw_821 tw_32 tw_48 tw_822) rfl rfl rfl ⟨rfl, hd_X7_nextOrder⟩ ⟨Nat.le_of_ble_eq_true rfl, Nat.le_of_ble_eq_true rfl⟩) rfl rfl (Nat.le_of_ble_eq_true rfl) dX7_search_182 rfl ?_
              refine sf_istore_n (i := 1) (lv' := [(1, .int r68), (0, .ref (q 0)), (2, .int u1), (3, .int u2)]) X dX7_search_185 rfl (by decide) rfl rfl ?_
              refine sf_goto (tgt := 35) X dX7_search_186 rfl ?_
              refine sf_loc (lv' := [(0, .ref (q 0)), (1, .int r68)]) [1, 0] rfl ?_
              exact h
        · have h := sf_iff c39 h
          refine sf_aload_n (i := 0) (j := 0) X dX7_search_67 rfl rfl rfl ?_
          refine sf_iload_n (i := 3) (j := 3) X dX7_search_68 rfl rfl rfl ?_
          obtain ⟨r71, τ70, hR69, h⟩ := h
          refine sf_callVi (As := [.int u2]) (rest := []) (cv := (RX7, TX7, 23)) X rfl rfl (c_X7_rowOf hq hR69) (cwV 1 X.1.2.2.2.2 (sf_gV tw_810 tw_812 tw_30 tw_48 tw_813) rfl rfl rfl ⟨rfl, hd_X7_rowOf⟩ ⟨Nat.le_of_ble_eq_true rfl, Nat.le_of_ble_eq_true rfl⟩) rfl rfl (Nat.le_of_ble_eq_true rfl) dX7_search_69 rfl ?_
          refine sf_istore (i := 4) (lv' := [(4, .int r71), (0, .ref (q 0)), (1, .int u0), (2, .int u1), (3, .int u2)]) X dX7_search_72 (by decide) rfl rfl ?_
          refine sf_iload_n (i := 2) (j := 3) X dX7_search_74 rfl rfl rfl ?_
          refine sf_if_lt (tgt := 89) X dX7_search_75 rfl rfl (fun c72 => ?_) (fun c72 => ?_)
          · have h := sf_ift c72 h
            refine sf_iload_n (i := 2) (j := 3) X dX7_search_89 rfl rfl rfl ?_
            refine sf_goto (tgt := 109) X dX7_search_90 rfl ?_
            refine sf_istore_n (i := 2) (lv' := [(2, .int u1), (4, .int r71), (0, .ref (q 0)), (1, .int u0), (3, .int u2)]) X dX7_search_109 rfl (by decide) rfl rfl ?_
            refine sf_aload_n (i := 0) (j := 2) X dX7_search_110 rfl rfl rfl ?_
            refine sf_getR (C := RX7) (T := TX7) (N := 23) (ci := 7) (j := 12) (k' := 10) X (fun w h => sf_memc (inX7 w h)) rfl rfl (by decide) (X.1.2.2.2.2 _ (sf_memc tw_643)) (fun _ h9 => h9) rfl dX7_search_111 rfl ?_
            refine sf_iload_n (i := 3) (j := 4) X dX7_search_114 rfl rfl rfl ?_
            refine sf_iload_n (i := 2) (j := 0) X dX7_search_115 rfl rfl rfl ?_
            refine sf_if_ge (tgt := 124) X dX7_search_116 rfl rfl (fun c73 => ?_) (fun c73 => ?_)
            · have h := sf_ift c73 h
              refine sf_aload_n (i := 0) (j := 2) X dX7_search_124 rfl rfl rfl ?_
              refine sf_getR (C := RX7) (T := TX7) (N := 23) (ci := 7) (j := 12) (k' := 10) X (fun w h => sf_memc (inX7 w h)) rfl rfl (by decide) (X.1.2.2.2.2 _ (sf_memc tw_643)) (fun _ h9 => h9) rfl dX7_search_125 rfl ?_
              refine sf_iload_n (i := 3) (j := 4) X dX7_search_128 rfl rfl rfl ?_
              obtain ⟨b74, h⟩ := h
              refine sf_iald X rfl b74 dX7_search_129 rfl ?_
              obtain ⟨b75, h⟩ := h
              refine sf_iast X rfl b75 dX7_search_130 rfl (fun τ76 hτ76 => ?_)
              have h := h τ76 hτ76
              refine sf_iinc (i := 3) (j := 4) (d := 1) (lv' := fun y77 => [(3, .int y77), (2, .int u1), (4, .int r71), (0, .ref (q 0)), (1, .int u0)]) X dX7_search_131 rfl sf_ic_1 (by decide) (fun _ => rfl) rfl (fun y77 hy77 => ?_)
              have h := h y77 hy77
              refine sf_goto (tgt := 54) X dX7_search_134 rfl ?_
              refine sf_loc (lv' := [(0, .ref (q 0)), (1, .int u0), (2, .int u1), (3, .int y77)]) [3, 4, 1, 0] rfl ?_
              exact h
            · have h := sf_iff c73 h
              refine sf_iload (i := 4) (j := 1) X dX7_search_119 rfl rfl ?_
              refine sf_goto (tgt := 130) X dX7_search_121 rfl ?_
              obtain ⟨b78, h⟩ := h
              refine sf_iast X rfl b78 dX7_search_130 rfl (fun τ79 hτ79 => ?_)
              have h := h τ79 hτ79
              refine sf_iinc (i := 3) (j := 4) (d := 1) (lv' := fun y80 => [(3, .int y80), (2, .int u1), (4, .int r71), (0, .ref (q 0)), (1, .int u0)]) X dX7_search_131 rfl sf_ic_1 (by decide) (fun _ => rfl) rfl (fun y80 hy80 => ?_)
              have h := h y80 hy80
              refine sf_goto (tgt := 54) X dX7_search_134 rfl ?_
              refine sf_loc (lv' := [(0, .ref (q 0)), (1, .int u0), (2, .int u1), (3, .int y80)]) [3, 4, 1, 0] rfl ?_
              exact h
          · have h := sf_iff c72 h
            refine sf_iload (i := 4) (j := 0) X dX7_search_78 rfl rfl ?_
            refine sf_aload_n (i := 0) (j := 1) X dX7_search_80 rfl rfl rfl ?_
            refine sf_getR (C := RX7) (T := TX7) (N := 23) (ci := 7) (j := 12) (k' := 10) X (fun w h => sf_memc (inX7 w h)) rfl rfl (by decide) (X.1.2.2.2.2 _ (sf_memc tw_643)) (fun _ h9 => h9) rfl dX7_search_81 rfl ?_
            refine sf_iload_n (i := 3) (j := 4) X dX7_search_84 rfl rfl rfl ?_
            obtain ⟨b81, h⟩ := h
            refine sf_iald X rfl b81 dX7_search_85 rfl ?_
            refine sf_icmp_ne (tgt := 93) X dX7_search_86 rfl rfl (fun c82 => ?_) (fun c82 => ?_)
            · have h := sf_iff c82 h
              refine sf_iload (i := 4) (j := 0) X dX7_search_93 rfl rfl ?_
              refine sf_aload_n (i := 0) (j := 1) X dX7_search_95 rfl rfl rfl ?_
              refine sf_getR (C := RX7) (T := TX7) (N := 23) (ci := 7) (j := 12) (k' := 10) X (fun w h => sf_memc (inX7 w h)) rfl rfl (by decide) (X.1.2.2.2.2 _ (sf_memc tw_643)) (fun _ h9 => h9) rfl dX7_search_96 rfl ?_
              refine sf_iload_n (i := 3) (j := 4) X dX7_search_99 rfl rfl rfl ?_
              obtain ⟨b83, h⟩ := h
              refine sf_iald X rfl b83 dX7_search_100 rfl ?_
              refine sf_icmp_ge (tgt := 108) X dX7_search_101 rfl rfl (fun c84 => ?_) (fun c84 => ?_)
              · have h := sf_ift c84 h
                refine sf_iconst (v := 1) X dX7_search_108 sf_ic_1 rfl ?_
                refine sf_istore_n (i := 2) (lv' := [(2, .int (1 : Int32)), (4, .int r71), (0, .ref (q 0)), (1, .int u0), (3, .int u2)]) X dX7_search_109 rfl (by decide) rfl rfl ?_
                refine sf_aload_n (i := 0) (j := 2) X dX7_search_110 rfl rfl rfl ?_
                refine sf_getR (C := RX7) (T := TX7) (N := 23) (ci := 7) (j := 12) (k' := 10) X (fun w h => sf_memc (inX7 w h)) rfl rfl (by decide) (X.1.2.2.2.2 _ (sf_memc tw_643)) (fun _ h9 => h9) rfl dX7_search_111 rfl ?_
                refine sf_iload_n (i := 3) (j := 4) X dX7_search_114 rfl rfl rfl ?_
                refine sf_iload_n (i := 2) (j := 0) X dX7_search_115 rfl rfl rfl ?_
                refine sf_if_ge (tgt := 124) X dX7_search_116 rfl rfl (fun c85 => ?_) (fun c85 => ?_)
                · have h := sf_ift c85 h
                  refine sf_aload_n (i := 0) (j := 2) X dX7_search_124 rfl rfl rfl ?_
                  refine sf_getR (C := RX7) (T := TX7) (N := 23) (ci := 7) (j := 12) (k' := 10) X (fun w h => sf_memc (inX7 w h)) rfl rfl (by decide) (X.1.2.2.2.2 _ (sf_memc tw_643)) (fun _ h9 => h9) rfl dX7_search_125 rfl ?_
                  refine sf_iload_n (i := 3) (j := 4) X dX7_search_128 rfl rfl rfl ?_
                  obtain ⟨b86, h⟩ := h
                  refine sf_iald X rfl b86 dX7_search_129 rfl ?_
                  obtain ⟨b87, h⟩ := h
                  refine sf_iast X rfl b87 dX7_search_130 rfl (fun τ88 hτ88 => ?_)
                  have h := h τ88 hτ88
                  refine sf_iinc (i := 3) (j := 4) (d := 1) (lv' := fun y89 => [(3, .int y89), (2, .int (1 : Int32)), (4, .int r71), (0, .ref (q 0)), (1, .int u0)]) X dX7_search_131 rfl sf_ic_1 (by decide) (fun _ => rfl) rfl (fun y89 hy89 => ?_)
                  have h := h y89 hy89
                  refine sf_goto (tgt := 54) X dX7_search_134 rfl ?_
                  refine sf_loc (lv' := [(0, .ref (q 0)), (1, .int u0), (2, .int (1 : Int32)), (3, .int y89)]) [3, 4, 1, 0] rfl ?_
                  exact h
                · have h := sf_iff c85 h
                  refine sf_iload (i := 4) (j := 1) X dX7_search_119 rfl rfl ?_
                  refine sf_goto (tgt := 130) X dX7_search_121 rfl ?_
                  obtain ⟨b90, h⟩ := h
                  refine sf_iast X rfl b90 dX7_search_130 rfl (fun τ91 hτ91 => ?_)
                  have h := h τ91 hτ91
                  refine sf_iinc (i := 3) (j := 4) (d := 1) (lv' := fun y92 => [(3, .int y92), (2, .int (1 : Int32)), (4, .int r71), (0, .ref (q 0)), (1, .int u0)]) X dX7_search_131 rfl sf_ic_1 (by decide) (fun _ => rfl) rfl (fun y92 hy92 => ?_)
                  have h := h y92 hy92
                  refine sf_goto (tgt := 54) X dX7_search_134 rfl ?_
                  refine sf_loc (lv' := [(0, .ref (q 0)), (1, .int u0), (2, .int (1 : Int32)), (3, .int y92)]) [3, 4, 1, 0] rfl ?_
                  exact h
              · have h := sf_iff c84 h
                refine sf_iconst (v := (-1)) X dX7_search_104 sf_ic_m1 rfl ?_
                refine sf_goto (tgt := 109) X dX7_search_105 rfl ?_
                refine sf_istore_n (i := 2) (lv' := [(2, .int (-1 : Int32)), (4, .int r71), (0, .ref (q 0)), (1, .int u0), (3, .int u2)]) X dX7_search_109 rfl (by decide) rfl rfl ?_
                refine sf_aload_n (i := 0) (j := 2) X dX7_search_110 rfl rfl rfl ?_
                refine sf_getR (C := RX7) (T := TX7) (N := 23) (ci := 7) (j := 12) (k' := 10) X (fun w h => sf_memc (inX7 w h)) rfl rfl (by decide) (X.1.2.2.2.2 _ (sf_memc tw_643)) (fun _ h9 => h9) rfl dX7_search_111 rfl ?_
                refine sf_iload_n (i := 3) (j := 4) X dX7_search_114 rfl rfl rfl ?_
                refine sf_iload_n (i := 2) (j := 0) X dX7_search_115 rfl rfl rfl ?_
                refine sf_if_ge (tgt := 124) X dX7_search_116 rfl rfl (fun c93 => ?_) (fun c93 => ?_)
                · have h := sf_ift c93 h
                  refine sf_aload_n (i := 0) (j := 2) X dX7_search_124 rfl rfl rfl ?_
                  refine sf_getR (C := RX7) (T := TX7) (N := 23) (ci := 7) (j := 12) (k' := 10) X (fun w h => sf_memc (inX7 w h)) rfl rfl (by decide) (X.1.2.2.2.2 _ (sf_memc tw_643)) (fun _ h9 => h9) rfl dX7_search_125 rfl ?_
                  refine sf_iload_n (i := 3) (j := 4) X dX7_search_128 rfl rfl rfl ?_
                  obtain ⟨b94, h⟩ := h
                  refine sf_iald X rfl b94 dX7_search_129 rfl ?_
                  obtain ⟨b95, h⟩ := h
                  refine sf_iast X rfl b95 dX7_search_130 rfl (fun τ96 hτ96 => ?_)
                  have h := h τ96 hτ96
                  refine sf_iinc (i := 3) (j := 4) (d := 1) (lv' := fun y97 => [(3, .int y97), (2, .int (-1 : Int32)), (4, .int r71), (0, .ref (q 0)), (1, .int u0)]) X dX7_search_131 rfl sf_ic_1 (by decide) (fun _ => rfl) rfl (fun y97 hy97 => ?_)
                  have h := h y97 hy97
                  refine sf_goto (tgt := 54) X dX7_search_134 rfl ?_
                  refine sf_loc (lv' := [(0, .ref (q 0)), (1, .int u0), (2, .int (-1 : Int32)), (3, .int y97)]) [3, 4, 1, 0] rfl ?_
                  exact h
                · have h := sf_iff c93 h
                  refine sf_iload (i := 4) (j := 1) X dX7_search_119 rfl rfl ?_
                  refine sf_goto (tgt := 130) X dX7_search_121 rfl ?_
                  obtain ⟨b98, h⟩ := h
                  refine sf_iast X rfl b98 dX7_search_130 rfl (fun τ99 hτ99 => ?_)
                  have h := h τ99 hτ99
                  refine sf_iinc (i := 3) (j := 4) (d := 1) (lv' := fun y100 => [(3, .int y100), (2, .int (-1 : Int32)), (4, .int r71), (0, .ref (q 0)), (1, .int u0)]) X dX7_search_131 rfl sf_ic_1 (by decide) (fun _ => rfl) rfl (fun y100 hy100 => ?_)
                  have h := h y100 hy100
                  refine sf_goto (tgt := 54) X dX7_search_134 rfl ?_
                  refine sf_loc (lv' := [(0, .ref (q 0)), (1, .int u0), (2, .int (-1 : Int32)), (3, .int y100)]) [3, 4, 1, 0] rfl ?_
                  exact h
            · have h := sf_ift c82 h
              refine sf_iload_n (i := 2) (j := 3) X dX7_search_89 rfl rfl rfl ?_
              refine sf_goto (tgt := 109) X dX7_search_90 rfl ?_
              refine sf_istore_n (i := 2) (lv' := [(2, .int u1), (4, .int r71), (0, .ref (q 0)), (1, .int u0), (3, .int u2)]) X dX7_search_109 rfl (by decide) rfl rfl ?_
              refine sf_aload_n (i := 0) (j := 2) X dX7_search_110 rfl rfl rfl ?_
              refine sf_getR (C := RX7) (T := TX7) (N := 23) (ci := 7) (j := 12) (k' := 10) X (fun w h => sf_memc (inX7 w h)) rfl rfl (by decide) (X.1.2.2.2.2 _ (sf_memc tw_643)) (fun _ h9 => h9) rfl dX7_search_111 rfl ?_
              refine sf_iload_n (i := 3) (j := 4) X dX7_search_114 rfl rfl rfl ?_
              refine sf_iload_n (i := 2) (j := 0) X dX7_search_115 rfl rfl rfl ?_
              refine sf_if_ge (tgt := 124) X dX7_search_116 rfl rfl (fun c101 => ?_) (fun c101 => ?_)
              · have h := sf_ift c101 h
                refine sf_aload_n (i := 0) (j := 2) X dX7_search_124 rfl rfl rfl ?_
                refine sf_getR (C := RX7) (T := TX7) (N := 23) (ci := 7) (j := 12) (k' := 10) X (fun w h => sf_memc (inX7 w h)) rfl rfl (by decide) (X.1.2.2.2.2 _ (sf_memc tw_643)) (fun _ h9 => h9) rfl dX7_search_125 rfl ?_
                refine sf_iload_n (i := 3) (j := 4) X dX7_search_128 rfl rfl rfl ?_
                obtain ⟨b102, h⟩ := h
                refine sf_iald X rfl b102 dX7_search_129 rfl ?_
                obtain ⟨b103, h⟩ := h
                refine sf_iast X rfl b103 dX7_search_130 rfl (fun τ104 hτ104 => ?_)
                have h := h τ104 hτ104
                refine sf_iinc (i := 3) (j := 4) (d := 1) (lv' := fun y105 => [(3, .int y105), (2, .int u1), (4, .int r71), (0, .ref (q 0)), (1, .int u0)]) X dX7_search_131 rfl sf_ic_1 (by decide) (fun _ => rfl) rfl (fun y105 hy105 => ?_)
                have h := h y105 hy105
                refine sf_goto (tgt := 54) X dX7_search_134 rfl ?_
                refine sf_loc (lv' := [(0, .ref (q 0)), (1, .int u0), (2, .int u1), (3, .int y105)]) [3, 4, 1, 0] rfl ?_
                exact h
              · have h := sf_iff c101 h
                refine sf_iload (i := 4) (j := 1) X dX7_search_119 rfl rfl ?_
                refine sf_goto (tgt := 130) X dX7_search_121 rfl ?_
                obtain ⟨b106, h⟩ := h
                refine sf_iast X rfl b106 dX7_search_130 rfl (fun τ107 hτ107 => ?_)
                have h := h τ107 hτ107
                refine sf_iinc (i := 3) (j := 4) (d := 1) (lv' := fun y108 => [(3, .int y108), (2, .int u1), (4, .int r71), (0, .ref (q 0)), (1, .int u0)]) X dX7_search_131 rfl sf_ic_1 (by decide) (fun _ => rfl) rfl (fun y108 hy108 => ?_)
                have h := h y108 hy108
                refine sf_goto (tgt := 54) X dX7_search_134 rfl ?_
                refine sf_loc (lv' := [(0, .ref (q 0)), (1, .int u0), (2, .int u1), (3, .int y108)]) [3, 4, 1, 0] rfl ?_
                exact h
  | (_ + 3), _ => exact trivial
def R_X7_row (σ : sf_St) (u0 : Int32) (r : Int32) (τ : sf_St) : Prop :=
  ∃ τ2 : sf_St, R_X7_search σ τ2 ∧ (∃ (r5 : Int32) (τ4 : sf_St), R_X7_isAtom τ2 u0 r5 τ4 ∧ (if r5 = (0 : Int32) then (r = (-1 : Int32) ∧ τ = τ4) else (vp_in u0 7 ∧ (r = (τ4 10 (sf_ix u0)) ∧ τ = τ4))))
set_option maxHeartbeats 4000000 in
set_option maxRecDepth 100000 in
theorem c_X7_row {l : Launch} {D : va_G} {q : Nat → Nat} {dA : Nat → ClassId}  (hq : sf_inj q KM) {σ τ : sf_St} {u0 : Int32} {r : Int32} (h : R_X7_row σ u0 r τ) : sf_Mi l yX7_row wsX7_row ({ frames := 4, cells := 0, slots := 0, locals := 91 }) D vwCl q dA KM sf_EM [.ref (q 0), .int u0] σ r τ := by
  refine sf_meti (cc := cX7_row) (maxL := 2) (ret := (some .int)) (own := RX7) (by decide +kernel) rfl rfl hq sf_EMk (Nat.le_of_ble_eq_true rfl) ?_
  intro p e s m args below meth c X
  unfold R_X7_row at h
  refine sf_loc (lv' := [(0, .ref (q 0)), (1, .int u0)]) [0, 1] rfl ?_
  refine sf_aload_n (i := 0) (j := 0) X dX7_row_0 rfl rfl rfl ?_
  obtain ⟨τ2, hR1, h⟩ := h
  refine sf_callVv (As := []) (rest := []) (cv := (RX7, TX7, 23)) X rfl rfl (c_X7_search hq hR1) (cwV 0 X.1.2.2.2.2 (sf_gV tw_806 tw_808 tw_29 tw_48 tw_809) rfl rfl rfl ⟨rfl, hd_X7_search⟩ ⟨Nat.le_of_ble_eq_true rfl, Nat.le_of_ble_eq_true rfl⟩) rfl rfl (Nat.le_of_ble_eq_true rfl) dX7_row_1 rfl ?_
  refine sf_aload_n (i := 0) (j := 0) X dX7_row_4 rfl rfl rfl ?_
  refine sf_iload_n (i := 1) (j := 1) X dX7_row_5 rfl rfl rfl ?_
  obtain ⟨r5, τ4, hR3, h⟩ := h
  refine sf_callVi (As := [.int u0]) (rest := []) (cv := (RX7, TX7, 23)) X rfl rfl (c_X7_isAtom hq hR3) (cwV 1 X.1.2.2.2.2 (sf_gV tw_712 tw_714 tw_15 tw_48 tw_715) rfl rfl rfl ⟨rfl, hd_X7_isAtom⟩ ⟨Nat.le_of_ble_eq_true rfl, Nat.le_of_ble_eq_true rfl⟩) rfl rfl (Nat.le_of_ble_eq_true rfl) dX7_row_6 rfl ?_
  refine sf_if_eq (tgt := 21) X dX7_row_9 rfl rfl (fun c6 => ?_) (fun c6 => ?_)
  · have h := sf_ift c6 h
    refine sf_iconst (v := (-1)) X dX7_row_21 sf_ic_m1 rfl ?_
    exact sf_reti X h dX7_row_22
  · have h := sf_iff c6 h
    refine sf_aload_n (i := 0) (j := 0) X dX7_row_12 rfl rfl rfl ?_
    refine sf_getR (C := RX7) (T := TX7) (N := 23) (ci := 7) (j := 12) (k' := 10) X (fun w h => sf_memc (inX7 w h)) rfl rfl (by decide) (X.1.2.2.2.2 _ (sf_memc tw_643)) (fun _ h9 => h9) rfl dX7_row_13 rfl ?_
    refine sf_iload_n (i := 1) (j := 1) X dX7_row_16 rfl rfl rfl ?_
    obtain ⟨b7, h⟩ := h
    refine sf_iald X rfl b7 dX7_row_17 rfl ?_
    refine sf_goto (tgt := 22) X dX7_row_18 rfl ?_
    exact sf_reti X h dX7_row_22
def tr_R_X7_unpack_0 (Pr : Nat → sf_St → Int32 → Int32 → Prop) (τ : sf_St) (σ : sf_St) (u0 u1 : Int32) : Prop :=
  Pr 1 σ u0 (0 : Int32)
def tr_R_X7_unpack_1 (Pr : Nat → sf_St → Int32 → Int32 → Prop) (τ : sf_St) (σ : sf_St) (u0 u1 : Int32) : Prop :=
  if (σ 0 0) ≤ u1 then (τ = σ) else (vp_in u1 7 ∧ (∀ τ3 : sf_St, τ3 = sf_up σ 8 (sf_ix u1) ((u0 >>> (((3 : Int32) * u1) &&& 31)) &&& (7 : Int32)) → (vp_in u1 7 ∧ (vp_in (τ3 8 (sf_ix u1)) 7 ∧ (∀ τ6 : sf_St, τ6 = sf_up τ3 9 (sf_ix (τ3 8 (sf_ix u1))) u1 → (∀ y7 : Int32, y7 = u1 + (1 : Int32) → (Pr 1 τ6 u0 y7)))))))
def fn_R_X7_unpack (Pr : Nat → sf_St → Int32 → Int32 → Prop) (τ : sf_St) (t : Nat) (σ : sf_St) (u0 u1 : Int32) : Prop := match t with
  | 0 => tr_R_X7_unpack_0 Pr τ σ u0 u1
  | 1 => tr_R_X7_unpack_1 Pr τ σ u0 u1
  | _ => False
def Rn_R_X7_unpack (t : Nat) (σ : sf_St) (u0 u1 : Int32) (τ : sf_St) : Prop := ∀ Pr : Nat → sf_St → Int32 → Int32 → Prop, (∀ (t : Nat) (σ : sf_St) (u0 u1 : Int32), fn_R_X7_unpack Pr τ t σ u0 u1 → Pr t σ u0 u1) → Pr t σ u0 u1
def R_X7_unpack (σ : sf_St) (u0 : Int32) (τ : sf_St) : Prop := Rn_R_X7_unpack 0 σ u0 0 τ
theorem fe_R_X7_unpack_0 {Pr : Nat → sf_St → Int32 → Int32 → Prop} {τ σ : sf_St} {u0 u1 : Int32} (h : fn_R_X7_unpack Pr τ 0 σ u0 u1) : tr_R_X7_unpack_0 Pr τ σ u0 u1 := h
theorem mo_R_X7_unpack_0 {Pr Pr' : Nat → sf_St → Int32 → Int32 → Prop} {τ σ : sf_St} {u0 u1 : Int32} (hP : ∀ (t : Nat) (σ : sf_St) (u0 u1 : Int32), Pr t σ u0 u1 → Pr' t σ u0 u1) (h : tr_R_X7_unpack_0 Pr τ σ u0 u1) : tr_R_X7_unpack_0 Pr' τ σ u0 u1 := by
  unfold tr_R_X7_unpack_0 at h ⊢
  exact hP _ _ _ _ h
theorem ru_R_X7_unpack_0 {τ σ : sf_St} {u0 u1 : Int32} (h : tr_R_X7_unpack_0 (fun t σ u0 u1 => Rn_R_X7_unpack t σ u0 u1 τ) τ σ u0 u1) : Rn_R_X7_unpack 0 σ u0 u1 τ := fun Pr hP => hP 0 σ u0 u1 (mo_R_X7_unpack_0 (fun _ _ _ _ h => h Pr hP) h)
theorem fe_R_X7_unpack_1 {Pr : Nat → sf_St → Int32 → Int32 → Prop} {τ σ : sf_St} {u0 u1 : Int32} (h : fn_R_X7_unpack Pr τ 1 σ u0 u1) : tr_R_X7_unpack_1 Pr τ σ u0 u1 := h
theorem mo_R_X7_unpack_1 {Pr Pr' : Nat → sf_St → Int32 → Int32 → Prop} {τ σ : sf_St} {u0 u1 : Int32} (hP : ∀ (t : Nat) (σ : sf_St) (u0 u1 : Int32), Pr t σ u0 u1 → Pr' t σ u0 u1) (h : tr_R_X7_unpack_1 Pr τ σ u0 u1) : tr_R_X7_unpack_1 Pr' τ σ u0 u1 := by
  unfold tr_R_X7_unpack_1 at h ⊢
  refine sf_mif (fun h => ?_) (fun h => ?_) h
  · exact h
  · refine And.imp id (fun h => ?_) h
    intro τ3 hτ3
    have h := h τ3 hτ3
    refine And.imp id (fun h => ?_) h
    refine And.imp id (fun h => ?_) h
    intro τ6 hτ6
    have h := h τ6 hτ6
    intro y7 hy7
    have h := h y7 hy7
    exact hP _ _ _ _ h
theorem ru_R_X7_unpack_1 {τ σ : sf_St} {u0 u1 : Int32} (h : tr_R_X7_unpack_1 (fun t σ u0 u1 => Rn_R_X7_unpack t σ u0 u1 τ) τ σ u0 u1) : Rn_R_X7_unpack 1 σ u0 u1 τ := fun Pr hP => hP 1 σ u0 u1 (mo_R_X7_unpack_1 (fun _ _ _ _ h => h Pr hP) h)
set_option maxHeartbeats 4000000 in
set_option maxRecDepth 100000 in
theorem c_X7_unpack {l : Launch} {D : va_G} {q : Nat → Nat} {dA : Nat → ClassId}  (hq : sf_inj q KM) {σ τ : sf_St} {u0 : Int32} (h : R_X7_unpack σ u0 τ) : sf_Mv l yX7_unpack wsX7_unpack ({ frames := 0, cells := 0, slots := 0, locals := 0 }) D vwCl q dA KM sf_EM [.ref (q 0), .int u0] σ τ := by
  refine sf_metv (cc := cX7_unpack) (maxL := 3) (ret := none) (own := RX7) (by decide +kernel) rfl rfl hq sf_EMk (Nat.le_of_ble_eq_true rfl) ?_
  intro p e s m args below meth c X
  refine sf_loc (lv' := [(0, .ref (q 0)), (1, .int u0)]) [0, 1] rfl ?_
  refine h (fun t σ u0 u1 => match t with
    | 0 => sf_G p l e (headSpec wsX7_unpack ({ frames := 0, cells := 0, slots := 0, locals := 0 })).room s m args below meth c (sf_Qv D vwCl q dA KM sf_EM below args s τ) 3 D vwCl q dA KM σ 0 [(0, .ref (q 0)), (1, .int u0)] []
    | 1 => sf_G p l e (headSpec wsX7_unpack ({ frames := 0, cells := 0, slots := 0, locals := 0 })).room s m args below meth c (sf_Qv D vwCl q dA KM sf_EM below args s τ) 3 D vwCl q dA KM σ 2 [(0, .ref (q 0)), (1, .int u0), (2, .int u1)] []
    | _ => True) ?_
  intro t σ u0 u1 h
  match t, h with
  | 0, h =>
      replace h := fe_R_X7_unpack_0 h
      unfold tr_R_X7_unpack_0 at h
      show sf_G p l e (headSpec wsX7_unpack ({ frames := 0, cells := 0, slots := 0, locals := 0 })).room s m args below meth c (sf_Qv D vwCl q dA KM sf_EM below args s τ) 3 D vwCl q dA KM σ 0 [(0, .ref (q 0)), (1, .int u0)] []
      refine sf_iconst (v := 0) X dX7_unpack_0 sf_ic_0 rfl ?_
      refine sf_istore_n (i := 2) (lv' := [(2, .int (0 : Int32)), (0, .ref (q 0)), (1, .int u0)]) X dX7_unpack_1 rfl (by decide) rfl rfl ?_
      refine sf_loc (lv' := [(0, .ref (q 0)), (1, .int u0), (2, .int (0 : Int32))]) [1, 2, 0] rfl ?_
      exact h
  | 1, h =>
      replace h := fe_R_X7_unpack_1 h
      unfold tr_R_X7_unpack_1 at h
      show sf_G p l e (headSpec wsX7_unpack ({ frames := 0, cells := 0, slots := 0, locals := 0 })).room s m args below meth c (sf_Qv D vwCl q dA KM sf_EM below args s τ) 3 D vwCl q dA KM σ 2 [(0, .ref (q 0)), (1, .int u0), (2, .int u1)] []
      refine sf_iload_n (i := 2) (j := 2) X dX7_unpack_2 rfl rfl rfl ?_
      refine sf_aload_n (i := 0) (j := 0) X dX7_unpack_3 rfl rfl rfl ?_
      refine sf_getI (C := RX7) (T := TX7) (N := 23) (ci := 7) (j := 0) X (fun w h => sf_memc (inX7 w h)) rfl rfl (by decide) (X.1.2.2.2.2 _ (sf_memc tw_631)) (fun _ h9 => h9) rfl dX7_unpack_4 rfl ?_
      refine sf_icmp_ge (tgt := 42) X dX7_unpack_7 rfl rfl (fun c1 => ?_) (fun c1 => ?_)
      · have h := sf_ift c1 h
        exact sf_retv X h dX7_unpack_42
      · have h := sf_iff c1 h
        refine sf_aload_n (i := 0) (j := 0) X dX7_unpack_10 rfl rfl rfl ?_
        refine sf_getR (C := RX7) (T := TX7) (N := 23) (ci := 7) (j := 9) (k' := 8) X (fun w h => sf_memc (inX7 w h)) rfl rfl (by decide) (X.1.2.2.2.2 _ (sf_memc tw_640)) (fun _ h9 => h9) rfl dX7_unpack_11 rfl ?_
        refine sf_iload_n (i := 2) (j := 2) X dX7_unpack_14 rfl rfl rfl ?_
        refine sf_iload_n (i := 1) (j := 1) X dX7_unpack_15 rfl rfl rfl ?_
        refine sf_iconst (v := 3) X dX7_unpack_16 sf_ic_3 rfl ?_
        refine sf_iload_n (i := 2) (j := 2) X dX7_unpack_17 rfl rfl rfl ?_
        refine sf_imul X dX7_unpack_18 rfl ?_
        refine sf_ishr X dX7_unpack_19 rfl ?_
        refine sf_bipush (v := 7) X dX7_unpack_20 sf_bc_7 rfl ?_
        refine sf_iand X dX7_unpack_22 rfl ?_
        obtain ⟨b2, h⟩ := h
        refine sf_iast X rfl b2 dX7_unpack_23 rfl (fun τ3 hτ3 => ?_)
        have h := h τ3 hτ3
        refine sf_aload_n (i := 0) (j := 0) X dX7_unpack_24 rfl rfl rfl ?_
        refine sf_getR (C := RX7) (T := TX7) (N := 23) (ci := 7) (j := 10) (k' := 9) X (fun w h => sf_memc (inX7 w h)) rfl rfl (by decide) (X.1.2.2.2.2 _ (sf_memc tw_641)) (fun _ h9 => h9) rfl dX7_unpack_25 rfl ?_
        refine sf_aload_n (i := 0) (j := 0) X dX7_unpack_28 rfl rfl rfl ?_
        refine sf_getR (C := RX7) (T := TX7) (N := 23) (ci := 7) (j := 9) (k' := 8) X (fun w h => sf_memc (inX7 w h)) rfl rfl (by decide) (X.1.2.2.2.2 _ (sf_memc tw_640)) (fun _ h9 => h9) rfl dX7_unpack_29 rfl ?_
        refine sf_iload_n (i := 2) (j := 2) X dX7_unpack_32 rfl rfl rfl ?_
        obtain ⟨b4, h⟩ := h
        refine sf_iald X rfl b4 dX7_unpack_33 rfl ?_
        refine sf_iload_n (i := 2) (j := 2) X dX7_unpack_34 rfl rfl rfl ?_
        obtain ⟨b5, h⟩ := h
        refine sf_iast X rfl b5 dX7_unpack_35 rfl (fun τ6 hτ6 => ?_)
        have h := h τ6 hτ6
        refine sf_iinc (i := 2) (j := 2) (d := 1) (lv' := fun y7 => [(2, .int y7), (0, .ref (q 0)), (1, .int u0)]) X dX7_unpack_36 rfl sf_ic_1 (by decide) (fun _ => rfl) rfl (fun y7 hy7 => ?_)
        have h := h y7 hy7
        refine sf_goto (tgt := 2) X dX7_unpack_39 rfl ?_
        refine sf_loc (lv' := [(0, .ref (q 0)), (1, .int u0), (2, .int y7)]) [1, 2, 0] rfl ?_
        exact h
  | (_ + 2), _ => exact trivial
def tr_R_X7_sensesNow_0 (Pr : Nat → sf_St → Int32 → Int32 → Int32 → Int32 → Prop) (r : Int32) (τ : sf_St) (σ : sf_St) (u0 u1 u2 u3 : Int32) : Prop :=
  Pr 1 σ u0 (0 : Int32) (0 : Int32) 0
def tr_R_X7_sensesNow_1 (Pr : Nat → sf_St → Int32 → Int32 → Int32 → Int32 → Prop) (r : Int32) (τ : sf_St) (σ : sf_St) (u0 u1 u2 u3 : Int32) : Prop :=
  if (σ 0 0) ≤ u2 then (Pr 2 σ u0 u1 (0 : Int32) 0) else (vp_in u2 7 ∧ (∃ (r5 : Int32) (τ4 : sf_St), R_X7_centreSense σ (σ 8 (sf_ix u2)) r5 τ4 ∧ (vp_in u2 7 ∧ (if ((u0 >>> ((τ4 8 (sf_ix u2)) &&& 31)) &&& (1 : Int32)) = (1 : Int32) then (∀ y10 : Int32, y10 = ((((3 : Int32) * u1) + (-r5)) + (1 : Int32)) → (∀ y11 : Int32, y11 = u2 + (1 : Int32) → (Pr 1 τ4 u0 y10 y11 0))) else (∀ y8 : Int32, y8 = ((((3 : Int32) * u1) + r5) + (1 : Int32)) → (∀ y9 : Int32, y9 = u2 + (1 : Int32) → (Pr 1 τ4 u0 y8 y9 0)))))))
def tr_R_X7_sensesNow_2 (Pr : Nat → sf_St → Int32 → Int32 → Int32 → Int32 → Prop) (r : Int32) (τ : sf_St) (σ : sf_St) (u0 u1 u2 u3 : Int32) : Prop :=
  if (σ 0 0) ≤ u2 then (r = u1 ∧ τ = σ) else (Pr 3 σ u0 u1 u2 (0 : Int32))
def tr_R_X7_sensesNow_3 (Pr : Nat → sf_St → Int32 → Int32 → Int32 → Int32 → Prop) (r : Int32) (τ : sf_St) (σ : sf_St) (u0 u1 u2 u3 : Int32) : Prop :=
  if u2 ≤ u3 then (∀ y14 : Int32, y14 = u2 + (1 : Int32) → (Pr 2 σ u0 u1 y14 0)) else (vp_in u2 7 ∧ (vp_in u3 7 ∧ (∃ (r19 : Int32) (τ18 : sf_St), R_X7_bondOf σ (σ 8 (sf_ix u2)) (σ 8 (sf_ix u3)) r19 τ18 ∧ (if r19 < (0 : Int32) then (∀ y21 : Int32, y21 = u3 + (1 : Int32) → (Pr 3 τ18 u0 u1 u2 y21)) else (∃ (r24 : Int32) (τ23 : sf_St), R_X7_isHinge τ18 r19 r24 τ23 ∧ (if r24 = (0 : Int32) then (∀ y26 : Int32, y26 = u3 + (1 : Int32) → (Pr 3 τ23 u0 u1 u2 y26)) else (∃ (r29 : Int32) (τ28 : sf_St), R_X7_hingeSense τ23 r19 r29 τ28 ∧ (if ((u0 >>> (((7 : Int32) + r19) &&& 31)) &&& (1 : Int32)) = (1 : Int32) then (∀ y33 : Int32, y33 = ((((3 : Int32) * u1) + (-r29)) + (1 : Int32)) → (∀ y34 : Int32, y34 = u3 + (1 : Int32) → (Pr 3 τ28 u0 y33 u2 y34))) else (∀ y31 : Int32, y31 = ((((3 : Int32) * u1) + r29) + (1 : Int32)) → (∀ y32 : Int32, y32 = u3 + (1 : Int32) → (Pr 3 τ28 u0 y31 u2 y32)))))))))))
def fn_R_X7_sensesNow (Pr : Nat → sf_St → Int32 → Int32 → Int32 → Int32 → Prop) (r : Int32) (τ : sf_St) (t : Nat) (σ : sf_St) (u0 u1 u2 u3 : Int32) : Prop := match t with
  | 0 => tr_R_X7_sensesNow_0 Pr r τ σ u0 u1 u2 u3
  | 1 => tr_R_X7_sensesNow_1 Pr r τ σ u0 u1 u2 u3
  | 2 => tr_R_X7_sensesNow_2 Pr r τ σ u0 u1 u2 u3
  | 3 => tr_R_X7_sensesNow_3 Pr r τ σ u0 u1 u2 u3
  | _ => False
def Rn_R_X7_sensesNow (t : Nat) (σ : sf_St) (u0 u1 u2 u3 : Int32) (r : Int32) (τ : sf_St) : Prop := ∀ Pr : Nat → sf_St → Int32 → Int32 → Int32 → Int32 → Prop, (∀ (t : Nat) (σ : sf_St) (u0 u1 u2 u3 : Int32), fn_R_X7_sensesNow Pr r τ t σ u0 u1 u2 u3 → Pr t σ u0 u1 u2 u3) → Pr t σ u0 u1 u2 u3
def R_X7_sensesNow (σ : sf_St) (u0 : Int32) (r : Int32) (τ : sf_St) : Prop := Rn_R_X7_sensesNow 0 σ u0 0 0 0 r τ
theorem fe_R_X7_sensesNow_0 {Pr : Nat → sf_St → Int32 → Int32 → Int32 → Int32 → Prop} {r : Int32} {τ σ : sf_St} {u0 u1 u2 u3 : Int32} (h : fn_R_X7_sensesNow Pr r τ 0 σ u0 u1 u2 u3) : tr_R_X7_sensesNow_0 Pr r τ σ u0 u1 u2 u3 := h
theorem mo_R_X7_sensesNow_0 {Pr Pr' : Nat → sf_St → Int32 → Int32 → Int32 → Int32 → Prop} {r : Int32} {τ σ : sf_St} {u0 u1 u2 u3 : Int32} (hP : ∀ (t : Nat) (σ : sf_St) (u0 u1 u2 u3 : Int32), Pr t σ u0 u1 u2 u3 → Pr' t σ u0 u1 u2 u3) (h : tr_R_X7_sensesNow_0 Pr r τ σ u0 u1 u2 u3) : tr_R_X7_sensesNow_0 Pr' r τ σ u0 u1 u2 u3 := by
  unfold tr_R_X7_sensesNow_0 at h ⊢
  exact hP _ _ _ _ _ _ h
theorem ru_R_X7_sensesNow_0 {r : Int32} {τ σ : sf_St} {u0 u1 u2 u3 : Int32} (h : tr_R_X7_sensesNow_0 (fun t σ u0 u1 u2 u3 => Rn_R_X7_sensesNow t σ u0 u1 u2 u3 r τ) r τ σ u0 u1 u2 u3) : Rn_R_X7_sensesNow 0 σ u0 u1 u2 u3 r τ := fun Pr hP => hP 0 σ u0 u1 u2 u3 (mo_R_X7_sensesNow_0 (fun _ _ _ _ _ _ h => h Pr hP) h)
theorem fe_R_X7_sensesNow_1 {Pr : Nat → sf_St → Int32 → Int32 → Int32 → Int32 → Prop} {r : Int32} {τ σ : sf_St} {u0 u1 u2 u3 : Int32} (h : fn_R_X7_sensesNow Pr r τ 1 σ u0 u1 u2 u3) : tr_R_X7_sensesNow_1 Pr r τ σ u0 u1 u2 u3 := h
theorem mo_R_X7_sensesNow_1 {Pr Pr' : Nat → sf_St → Int32 → Int32 → Int32 → Int32 → Prop} {r : Int32} {τ σ : sf_St} {u0 u1 u2 u3 : Int32} (hP : ∀ (t : Nat) (σ : sf_St) (u0 u1 u2 u3 : Int32), Pr t σ u0 u1 u2 u3 → Pr' t σ u0 u1 u2 u3) (h : tr_R_X7_sensesNow_1 Pr r τ σ u0 u1 u2 u3) : tr_R_X7_sensesNow_1 Pr' r τ σ u0 u1 u2 u3 := by
  unfold tr_R_X7_sensesNow_1 at h ⊢
  refine sf_mif (fun h => ?_) (fun h => ?_) h
  · exact hP _ _ _ _ _ _ h
  · refine And.imp id (fun h => ?_) h
    refine Exists.imp (fun _ h => Exists.imp (fun _ h => And.imp id (fun h => ?_) h) h) h
    refine And.imp id (fun h => ?_) h
    refine sf_mif (fun h => ?_) (fun h => ?_) h
    · intro y10 hy10
      have h := h y10 hy10
      intro y11 hy11
      have h := h y11 hy11
      exact hP _ _ _ _ _ _ h
    · intro y8 hy8
      have h := h y8 hy8
      intro y9 hy9
      have h := h y9 hy9
      exact hP _ _ _ _ _ _ h
theorem ru_R_X7_sensesNow_1 {r : Int32} {τ σ : sf_St} {u0 u1 u2 u3 : Int32} (h : tr_R_X7_sensesNow_1 (fun t σ u0 u1 u2 u3 => Rn_R_X7_sensesNow t σ u0 u1 u2 u3 r τ) r τ σ u0 u1 u2 u3) : Rn_R_X7_sensesNow 1 σ u0 u1 u2 u3 r τ := fun Pr hP => hP 1 σ u0 u1 u2 u3 (mo_R_X7_sensesNow_1 (fun _ _ _ _ _ _ h => h Pr hP) h)
theorem fe_R_X7_sensesNow_2 {Pr : Nat → sf_St → Int32 → Int32 → Int32 → Int32 → Prop} {r : Int32} {τ σ : sf_St} {u0 u1 u2 u3 : Int32} (h : fn_R_X7_sensesNow Pr r τ 2 σ u0 u1 u2 u3) : tr_R_X7_sensesNow_2 Pr r τ σ u0 u1 u2 u3 := h
theorem mo_R_X7_sensesNow_2 {Pr Pr' : Nat → sf_St → Int32 → Int32 → Int32 → Int32 → Prop} {r : Int32} {τ σ : sf_St} {u0 u1 u2 u3 : Int32} (hP : ∀ (t : Nat) (σ : sf_St) (u0 u1 u2 u3 : Int32), Pr t σ u0 u1 u2 u3 → Pr' t σ u0 u1 u2 u3) (h : tr_R_X7_sensesNow_2 Pr r τ σ u0 u1 u2 u3) : tr_R_X7_sensesNow_2 Pr' r τ σ u0 u1 u2 u3 := by
  unfold tr_R_X7_sensesNow_2 at h ⊢
  refine sf_mif (fun h => ?_) (fun h => ?_) h
  · exact h
  · exact hP _ _ _ _ _ _ h
theorem ru_R_X7_sensesNow_2 {r : Int32} {τ σ : sf_St} {u0 u1 u2 u3 : Int32} (h : tr_R_X7_sensesNow_2 (fun t σ u0 u1 u2 u3 => Rn_R_X7_sensesNow t σ u0 u1 u2 u3 r τ) r τ σ u0 u1 u2 u3) : Rn_R_X7_sensesNow 2 σ u0 u1 u2 u3 r τ := fun Pr hP => hP 2 σ u0 u1 u2 u3 (mo_R_X7_sensesNow_2 (fun _ _ _ _ _ _ h => h Pr hP) h)
theorem fe_R_X7_sensesNow_3 {Pr : Nat → sf_St → Int32 → Int32 → Int32 → Int32 → Prop} {r : Int32} {τ σ : sf_St} {u0 u1 u2 u3 : Int32} (h : fn_R_X7_sensesNow Pr r τ 3 σ u0 u1 u2 u3) : tr_R_X7_sensesNow_3 Pr r τ σ u0 u1 u2 u3 := h
theorem mo_R_X7_sensesNow_3 {Pr Pr' : Nat → sf_St → Int32 → Int32 → Int32 → Int32 → Prop} {r : Int32} {τ σ : sf_St} {u0 u1 u2 u3 : Int32} (hP : ∀ (t : Nat) (σ : sf_St) (u0 u1 u2 u3 : Int32), Pr t σ u0 u1 u2 u3 → Pr' t σ u0 u1 u2 u3) (h : tr_R_X7_sensesNow_3 Pr r τ σ u0 u1 u2 u3) : tr_R_X7_sensesNow_3 Pr' r τ σ u0 u1 u2 u3 := by
  unfold tr_R_X7_sensesNow_3 at h ⊢
  refine sf_mif (fun h => ?_) (fun h => ?_) h
  · intro y14 hy14
    have h := h y14 hy14
    exact hP _ _ _ _ _ _ h
  · refine And.imp id (fun h => ?_) h
    refine And.imp id (fun h => ?_) h
    refine Exists.imp (fun _ h => Exists.imp (fun _ h => And.imp id (fun h => ?_) h) h) h
    refine sf_mif (fun h => ?_) (fun h => ?_) h
    · intro y21 hy21
      have h := h y21 hy21
      exact hP _ _ _ _ _ _ h
    · refine Exists.imp (fun _ h => Exists.imp (fun _ h => And.imp id (fun h => ?_) h) h) h
      refine sf_mif (fun h => ?_) (fun h => ?_) h
      · intro y26 hy26
        have h := h y26 hy26
        exact hP _ _ _ _ _ _ h
      · refine Exists.imp (fun _ h => Exists.imp (fun _ h => And.imp id (fun h => ?_) h) h) h
        refine sf_mif (fun h => ?_) (fun h => ?_) h
        · intro y33 hy33
          have h := h y33 hy33
          intro y34 hy34
          have h := h y34 hy34
          exact hP _ _ _ _ _ _ h
        · intro y31 hy31
          have h := h y31 hy31
          intro y32 hy32
          have h := h y32 hy32
          exact hP _ _ _ _ _ _ h
theorem ru_R_X7_sensesNow_3 {r : Int32} {τ σ : sf_St} {u0 u1 u2 u3 : Int32} (h : tr_R_X7_sensesNow_3 (fun t σ u0 u1 u2 u3 => Rn_R_X7_sensesNow t σ u0 u1 u2 u3 r τ) r τ σ u0 u1 u2 u3) : Rn_R_X7_sensesNow 3 σ u0 u1 u2 u3 r τ := fun Pr hP => hP 3 σ u0 u1 u2 u3 (mo_R_X7_sensesNow_3 (fun _ _ _ _ _ _ h => h Pr hP) h)
set_option maxHeartbeats 4000000 in
set_option maxRecDepth 100000 in
theorem c_X7_sensesNow {l : Launch} {D : va_G} {q : Nat → Nat} {dA : Nat → ClassId}  (hq : sf_inj q KM) {σ τ : sf_St} {u0 : Int32} {r : Int32} (h : R_X7_sensesNow σ u0 r τ) : sf_Mi l yX7_sensesNow wsX7_sensesNow ({ frames := 4, cells := 0, slots := 0, locals := 97 }) D vwCl q dA KM sf_EM [.ref (q 0), .int u0] σ r τ := by
  refine sf_meti (cc := cX7_sensesNow) (maxL := 7) (ret := (some .int)) (own := RX7) (by decide +kernel) rfl rfl hq sf_EMk (Nat.le_of_ble_eq_true rfl) ?_
  intro p e s m args below meth c X
  refine sf_loc (lv' := [(0, .ref (q 0)), (1, .int u0)]) [0, 1] rfl ?_
  refine h (fun t σ u0 u1 u2 u3 => match t with
    | 0 => sf_G p l e (headSpec wsX7_sensesNow ({ frames := 4, cells := 0, slots := 0, locals := 97 })).room s m args below meth c (sf_Qi D vwCl q dA KM sf_EM below args s r τ) 7 D vwCl q dA KM σ 0 [(0, .ref (q 0)), (1, .int u0)] []
    | 1 => sf_G p l e (headSpec wsX7_sensesNow ({ frames := 4, cells := 0, slots := 0, locals := 97 })).room s m args below meth c (sf_Qi D vwCl q dA KM sf_EM below args s r τ) 7 D vwCl q dA KM σ 4 [(0, .ref (q 0)), (1, .int u0), (2, .int u1), (3, .int u2)] []
    | 2 => sf_G p l e (headSpec wsX7_sensesNow ({ frames := 4, cells := 0, slots := 0, locals := 97 })).room s m args below meth c (sf_Qi D vwCl q dA KM sf_EM below args s r τ) 7 D vwCl q dA KM σ 61 [(0, .ref (q 0)), (1, .int u0), (2, .int u1), (3, .int u2)] []
    | 3 => sf_G p l e (headSpec wsX7_sensesNow ({ frames := 4, cells := 0, slots := 0, locals := 97 })).room s m args below meth c (sf_Qi D vwCl q dA KM sf_EM below args s r τ) 7 D vwCl q dA KM σ 72 [(0, .ref (q 0)), (1, .int u0), (2, .int u1), (3, .int u2), (4, .int u3)] []
    | _ => True) ?_
  intro t σ u0 u1 u2 u3 h
  match t, h with
  | 0, h =>
      replace h := fe_R_X7_sensesNow_0 h
      unfold tr_R_X7_sensesNow_0 at h
      show sf_G p l e (headSpec wsX7_sensesNow ({ frames := 4, cells := 0, slots := 0, locals := 97 })).room s m args below meth c (sf_Qi D vwCl q dA KM sf_EM below args s r τ) 7 D vwCl q dA KM σ 0 [(0, .ref (q 0)), (1, .int u0)] []
      refine sf_iconst (v := 0) X dX7_sensesNow_0 sf_ic_0 rfl ?_
      refine sf_istore_n (i := 2) (lv' := [(2, .int (0 : Int32)), (0, .ref (q 0)), (1, .int u0)]) X dX7_sensesNow_1 rfl (by decide) rfl rfl ?_
      refine sf_iconst (v := 0) X dX7_sensesNow_2 sf_ic_0 rfl ?_
      refine sf_istore_n (i := 3) (lv' := [(3, .int (0 : Int32)), (2, .int (0 : Int32)), (0, .ref (q 0)), (1, .int u0)]) X dX7_sensesNow_3 rfl (by decide) rfl rfl ?_
      refine sf_loc (lv' := [(0, .ref (q 0)), (1, .int u0), (2, .int (0 : Int32)), (3, .int (0 : Int32))]) [2, 3, 1, 0] rfl ?_
      exact h
  | 1, h =>
      replace h := fe_R_X7_sensesNow_1 h
      unfold tr_R_X7_sensesNow_1 at h
      show sf_G p l e (headSpec wsX7_sensesNow ({ frames := 4, cells := 0, slots := 0, locals := 97 })).room s m args below meth c (sf_Qi D vwCl q dA KM sf_EM below args s r τ) 7 D vwCl q dA KM σ 4 [(0, .ref (q 0)), (1, .int u0), (2, .int u1), (3, .int u2)] []
      refine sf_iload_n (i := 3) (j := 3) X dX7_sensesNow_4 rfl rfl rfl ?_
      refine sf_aload_n (i := 0) (j := 0) X dX7_sensesNow_5 rfl rfl rfl ?_
      refine sf_getI (C := RX7) (T := TX7) (N := 23) (ci := 7) (j := 0) X (fun w h => sf_memc (inX7 w h)) rfl rfl (by decide) (X.1.2.2.2.2 _ (sf_memc tw_631)) (fun _ h9 => h9) rfl dX7_sensesNow_6 rfl ?_
      refine sf_icmp_ge (tgt := 59) X dX7_sensesNow_9 rfl rfl (fun c1 => ?_) (fun c1 => ?_)
      · have h := sf_ift c1 h
        refine sf_iconst (v := 0) X dX7_sensesNow_59 sf_ic_0 rfl ?_
        refine sf_istore_n (i := 3) (lv' := [(3, .int (0 : Int32)), (0, .ref (q 0)), (1, .int u0), (2, .int u1)]) X dX7_sensesNow_60 rfl (by decide) rfl rfl ?_
        refine sf_loc (lv' := [(0, .ref (q 0)), (1, .int u0), (2, .int u1), (3, .int (0 : Int32))]) [1, 2, 3, 0] rfl ?_
        exact h
      · have h := sf_iff c1 h
        refine sf_aload_n (i := 0) (j := 0) X dX7_sensesNow_12 rfl rfl rfl ?_
        refine sf_aload_n (i := 0) (j := 0) X dX7_sensesNow_13 rfl rfl rfl ?_
        refine sf_getR (C := RX7) (T := TX7) (N := 23) (ci := 7) (j := 9) (k' := 8) X (fun w h => sf_memc (inX7 w h)) rfl rfl (by decide) (X.1.2.2.2.2 _ (sf_memc tw_640)) (fun _ h9 => h9) rfl dX7_sensesNow_14 rfl ?_
        refine sf_iload_n (i := 3) (j := 3) X dX7_sensesNow_17 rfl rfl rfl ?_
        obtain ⟨b2, h⟩ := h
        refine sf_iald X rfl b2 dX7_sensesNow_18 rfl ?_
        obtain ⟨r5, τ4, hR3, h⟩ := h
        refine sf_callVi (As := [.int (σ 8 (sf_ix u2))]) (rest := []) (cv := (RX7, TX7, 23)) X rfl rfl (c_X7_centreSense hq hR3) (cwV 1 X.1.2.2.2.2 (sf_gV tw_759 tw_761 tw_20 tw_48 tw_762) rfl rfl rfl ⟨rfl, hd_X7_centreSense⟩ ⟨Nat.le_of_ble_eq_true rfl, Nat.le_of_ble_eq_true rfl⟩) rfl rfl (Nat.le_of_ble_eq_true rfl) dX7_sensesNow_19 rfl ?_
        refine sf_istore (i := 4) (lv' := [(4, .int r5), (0, .ref (q 0)), (1, .int u0), (2, .int u1), (3, .int u2)]) X dX7_sensesNow_22 (by decide) rfl rfl ?_
        refine sf_iconst (v := 3) X dX7_sensesNow_24 sf_ic_3 rfl ?_
        refine sf_iload_n (i := 2) (j := 3) X dX7_sensesNow_25 rfl rfl rfl ?_
        refine sf_imul X dX7_sensesNow_26 rfl ?_
        refine sf_iload_n (i := 1) (j := 2) X dX7_sensesNow_27 rfl rfl rfl ?_
        refine sf_aload_n (i := 0) (j := 1) X dX7_sensesNow_28 rfl rfl rfl ?_
        refine sf_getR (C := RX7) (T := TX7) (N := 23) (ci := 7) (j := 9) (k' := 8) X (fun w h => sf_memc (inX7 w h)) rfl rfl (by decide) (X.1.2.2.2.2 _ (sf_memc tw_640)) (fun _ h9 => h9) rfl dX7_sensesNow_29 rfl ?_
        refine sf_iload_n (i := 3) (j := 4) X dX7_sensesNow_32 rfl rfl rfl ?_
        obtain ⟨b6, h⟩ := h
        refine sf_iald X rfl b6 dX7_sensesNow_33 rfl ?_
        refine sf_ishr X dX7_sensesNow_34 rfl ?_
        refine sf_iconst (v := 1) X dX7_sensesNow_35 sf_ic_1 rfl ?_
        refine sf_iand X dX7_sensesNow_36 rfl ?_
        refine sf_iconst (v := 1) X dX7_sensesNow_37 sf_ic_1 rfl ?_
        refine sf_icmp_ne (tgt := 47) X dX7_sensesNow_38 rfl rfl (fun c7 => ?_) (fun c7 => ?_)
        · have h := sf_iff c7 h
          refine sf_iload (i := 4) (j := 0) X dX7_sensesNow_47 rfl rfl ?_
          refine sf_iadd X dX7_sensesNow_49 rfl ?_
          refine sf_iconst (v := 1) X dX7_sensesNow_50 sf_ic_1 rfl ?_
          refine sf_iadd X dX7_sensesNow_51 rfl ?_
          refine sf_top (fun y8 hy8 => ?_)
          have h := h y8 hy8
          refine sf_istore_n (i := 2) (lv' := [(2, .int y8), (4, .int r5), (0, .ref (q 0)), (1, .int u0), (3, .int u2)]) X dX7_sensesNow_52 rfl (by decide) rfl rfl ?_
          refine sf_iinc (i := 3) (j := 4) (d := 1) (lv' := fun y9 => [(3, .int y9), (2, .int y8), (4, .int r5), (0, .ref (q 0)), (1, .int u0)]) X dX7_sensesNow_53 rfl sf_ic_1 (by decide) (fun _ => rfl) rfl (fun y9 hy9 => ?_)
          have h := h y9 hy9
          refine sf_goto (tgt := 4) X dX7_sensesNow_56 rfl ?_
          refine sf_loc (lv' := [(0, .ref (q 0)), (1, .int u0), (2, .int y8), (3, .int y9)]) [3, 4, 1, 0] rfl ?_
          exact h
        · have h := sf_ift c7 h
          refine sf_iload (i := 4) (j := 0) X dX7_sensesNow_41 rfl rfl ?_
          refine sf_ineg X dX7_sensesNow_43 rfl ?_
          refine sf_goto (tgt := 49) X dX7_sensesNow_44 rfl ?_
          refine sf_iadd X dX7_sensesNow_49 rfl ?_
          refine sf_iconst (v := 1) X dX7_sensesNow_50 sf_ic_1 rfl ?_
          refine sf_iadd X dX7_sensesNow_51 rfl ?_
          refine sf_top (fun y10 hy10 => ?_)
          have h := h y10 hy10
          refine sf_istore_n (i := 2) (lv' := [(2, .int y10), (4, .int r5), (0, .ref (q 0)), (1, .int u0), (3, .int u2)]) X dX7_sensesNow_52 rfl (by decide) rfl rfl ?_
          refine sf_iinc (i := 3) (j := 4) (d := 1) (lv' := fun y11 => [(3, .int y11), (2, .int y10), (4, .int r5), (0, .ref (q 0)), (1, .int u0)]) X dX7_sensesNow_53 rfl sf_ic_1 (by decide) (fun _ => rfl) rfl (fun y11 hy11 => ?_)
          have h := h y11 hy11
          refine sf_goto (tgt := 4) X dX7_sensesNow_56 rfl ?_
          refine sf_loc (lv' := [(0, .ref (q 0)), (1, .int u0), (2, .int y10), (3, .int y11)]) [3, 4, 1, 0] rfl ?_
          exact h
  | 2, h =>
      replace h := fe_R_X7_sensesNow_2 h
      unfold tr_R_X7_sensesNow_2 at h
      show sf_G p l e (headSpec wsX7_sensesNow ({ frames := 4, cells := 0, slots := 0, locals := 97 })).room s m args below meth c (sf_Qi D vwCl q dA KM sf_EM below args s r τ) 7 D vwCl q dA KM σ 61 [(0, .ref (q 0)), (1, .int u0), (2, .int u1), (3, .int u2)] []
      refine sf_iload_n (i := 3) (j := 3) X dX7_sensesNow_61 rfl rfl rfl ?_
      refine sf_aload_n (i := 0) (j := 0) X dX7_sensesNow_62 rfl rfl rfl ?_
      refine sf_getI (C := RX7) (T := TX7) (N := 23) (ci := 7) (j := 0) X (fun w h => sf_memc (inX7 w h)) rfl rfl (by decide) (X.1.2.2.2.2 _ (sf_memc tw_631)) (fun _ h9 => h9) rfl dX7_sensesNow_63 rfl ?_
      refine sf_icmp_ge (tgt := 159) X dX7_sensesNow_66 rfl rfl (fun c12 => ?_) (fun c12 => ?_)
      · have h := sf_ift c12 h
        refine sf_iload_n (i := 2) (j := 2) X dX7_sensesNow_159 rfl rfl rfl ?_
        exact sf_reti X h dX7_sensesNow_160
      · have h := sf_iff c12 h
        refine sf_iconst (v := 0) X dX7_sensesNow_69 sf_ic_0 rfl ?_
        refine sf_istore (i := 4) (lv' := [(4, .int (0 : Int32)), (0, .ref (q 0)), (1, .int u0), (2, .int u1), (3, .int u2)]) X dX7_sensesNow_70 (by decide) rfl rfl ?_
        refine sf_loc (lv' := [(0, .ref (q 0)), (1, .int u0), (2, .int u1), (3, .int u2), (4, .int (0 : Int32))]) [1, 2, 3, 4, 0] rfl ?_
        exact h
  | 3, h =>
      replace h := fe_R_X7_sensesNow_3 h
      unfold tr_R_X7_sensesNow_3 at h
      show sf_G p l e (headSpec wsX7_sensesNow ({ frames := 4, cells := 0, slots := 0, locals := 97 })).room s m args below meth c (sf_Qi D vwCl q dA KM sf_EM below args s r τ) 7 D vwCl q dA KM σ 72 [(0, .ref (q 0)), (1, .int u0), (2, .int u1), (3, .int u2), (4, .int u3)] []
      refine sf_iload (i := 4) (j := 4) X dX7_sensesNow_72 rfl rfl ?_
      refine sf_iload_n (i := 3) (j := 3) X dX7_sensesNow_74 rfl rfl rfl ?_
      refine sf_icmp_ge (tgt := 153) X dX7_sensesNow_75 rfl rfl (fun c13 => ?_) (fun c13 => ?_)
      · have h := sf_ift c13 h
        refine sf_iinc (i := 3) (j := 3) (d := 1) (lv' := fun y14 => [(3, .int y14), (0, .ref (q 0)), (1, .int u0), (2, .int u1), (4, .int u3)]) X dX7_sensesNow_153 rfl sf_ic_1 (by decide) (fun _ => rfl) rfl (fun y14 hy14 => ?_)
        have h := h y14 hy14
        refine sf_goto (tgt := 61) X dX7_sensesNow_156 rfl ?_
        refine sf_loc (lv' := [(0, .ref (q 0)), (1, .int u0), (2, .int u1), (3, .int y14)]) [1, 2, 3, 0] rfl ?_
        exact h
      · have h := sf_iff c13 h
        refine sf_aload_n (i := 0) (j := 0) X dX7_sensesNow_78 rfl rfl rfl ?_
        refine sf_aload_n (i := 0) (j := 0) X dX7_sensesNow_79 rfl rfl rfl ?_
        refine sf_getR (C := RX7) (T := TX7) (N := 23) (ci := 7) (j := 9) (k' := 8) X (fun w h => sf_memc (inX7 w h)) rfl rfl (by decide) (X.1.2.2.2.2 _ (sf_memc tw_640)) (fun _ h9 => h9) rfl dX7_sensesNow_80 rfl ?_
        refine sf_iload_n (i := 3) (j := 3) X dX7_sensesNow_83 rfl rfl rfl ?_
        obtain ⟨b15, h⟩ := h
        refine sf_iald X rfl b15 dX7_sensesNow_84 rfl ?_
        refine sf_aload_n (i := 0) (j := 0) X dX7_sensesNow_85 rfl rfl rfl ?_
        refine sf_getR (C := RX7) (T := TX7) (N := 23) (ci := 7) (j := 9) (k' := 8) X (fun w h => sf_memc (inX7 w h)) rfl rfl (by decide) (X.1.2.2.2.2 _ (sf_memc tw_640)) (fun _ h9 => h9) rfl dX7_sensesNow_86 rfl ?_
        refine sf_iload (i := 4) (j := 4) X dX7_sensesNow_89 rfl rfl ?_
        obtain ⟨b16, h⟩ := h
        refine sf_iald X rfl b16 dX7_sensesNow_91 rfl ?_
        obtain ⟨r19, τ18, hR17, h⟩ := h
        refine sf_callVi (As := [.int (σ 8 (sf_ix u2)), .int (σ 8 (sf_ix u3))]) (rest := []) (cv := (RX7, TX7, 23)) X rfl rfl (c_X7_bondOf hq hR17) (cwV 2 X.1.2.2.2.2 (sf_gV tw_716 tw_718 tw_16 tw_48 tw_719) rfl rfl rfl ⟨rfl, hd_X7_bondOf⟩ ⟨Nat.le_of_ble_eq_true rfl, Nat.le_of_ble_eq_true rfl⟩) rfl rfl (Nat.le_of_ble_eq_true rfl) dX7_sensesNow_92 rfl ?_
        refine sf_istore (i := 5) (lv' := [(5, .int r19), (0, .ref (q 0)), (1, .int u0), (2, .int u1), (3, .int u2), (4, .int u3)]) X dX7_sensesNow_95 (by decide) rfl rfl ?_
        refine sf_iload (i := 5) (j := 0) X dX7_sensesNow_97 rfl rfl ?_
        refine sf_if_lt (tgt := 147) X dX7_sensesNow_99 rfl rfl (fun c20 => ?_) (fun c20 => ?_)
        · have h := sf_ift c20 h
          refine sf_iinc (i := 4) (j := 5) (d := 1) (lv' := fun y21 => [(4, .int y21), (5, .int r19), (0, .ref (q 0)), (1, .int u0), (2, .int u1), (3, .int u2)]) X dX7_sensesNow_147 rfl sf_ic_1 (by decide) (fun _ => rfl) rfl (fun y21 hy21 => ?_)
          have h := h y21 hy21
          refine sf_goto (tgt := 72) X dX7_sensesNow_150 rfl ?_
          refine sf_loc (lv' := [(0, .ref (q 0)), (1, .int u0), (2, .int u1), (3, .int u2), (4, .int y21)]) [2, 3, 4, 5, 0] rfl ?_
          exact h
        · have h := sf_iff c20 h
          refine sf_aload_n (i := 0) (j := 1) X dX7_sensesNow_102 rfl rfl rfl ?_
          refine sf_iload (i := 5) (j := 0) X dX7_sensesNow_103 rfl rfl ?_
          obtain ⟨r24, τ23, hR22, h⟩ := h
          refine sf_callVi (As := [.int r19]) (rest := []) (cv := (RX7, TX7, 23)) X rfl rfl (c_X7_isHinge hq hR22) (cwV 1 X.1.2.2.2.2 (sf_gV tw_786 tw_788 tw_25 tw_48 tw_789) rfl rfl rfl ⟨rfl, hd_X7_isHinge⟩ ⟨Nat.le_of_ble_eq_true rfl, Nat.le_of_ble_eq_true rfl⟩) rfl rfl (Nat.le_of_ble_eq_true rfl) dX7_sensesNow_105 rfl ?_
          refine sf_if_eq (tgt := 147) X dX7_sensesNow_108 rfl rfl (fun c25 => ?_) (fun c25 => ?_)
          · have h := sf_ift c25 h
            refine sf_iinc (i := 4) (j := 5) (d := 1) (lv' := fun y26 => [(4, .int y26), (5, .int r19), (0, .ref (q 0)), (1, .int u0), (2, .int u1), (3, .int u2)]) X dX7_sensesNow_147 rfl sf_ic_1 (by decide) (fun _ => rfl) rfl (fun y26 hy26 => ?_)
            have h := h y26 hy26
            refine sf_goto (tgt := 72) X dX7_sensesNow_150 rfl ?_
            refine sf_loc (lv' := [(0, .ref (q 0)), (1, .int u0), (2, .int u1), (3, .int u2), (4, .int y26)]) [2, 3, 4, 5, 0] rfl ?_
            exact h
          · have h := sf_iff c25 h
            refine sf_aload_n (i := 0) (j := 1) X dX7_sensesNow_111 rfl rfl rfl ?_
            refine sf_iload (i := 5) (j := 0) X dX7_sensesNow_112 rfl rfl ?_
            obtain ⟨r29, τ28, hR27, h⟩ := h
            refine sf_callVi (As := [.int r19]) (rest := []) (cv := (RX7, TX7, 23)) X rfl rfl (c_X7_hingeSense hq hR27) (cwV 1 X.1.2.2.2.2 (sf_gV tw_782 tw_784 tw_24 tw_48 tw_785) rfl rfl rfl ⟨rfl, hd_X7_hingeSense⟩ ⟨Nat.le_of_ble_eq_true rfl, Nat.le_of_ble_eq_true rfl⟩) rfl rfl (Nat.le_of_ble_eq_true rfl) dX7_sensesNow_114 rfl ?_
            refine sf_istore (i := 6) (lv' := [(6, .int r29), (5, .int r19), (0, .ref (q 0)), (1, .int u0), (2, .int u1), (3, .int u2), (4, .int u3)]) X dX7_sensesNow_117 (by decide) rfl rfl ?_
            refine sf_iconst (v := 3) X dX7_sensesNow_119 sf_ic_3 rfl ?_
            refine sf_iload_n (i := 2) (j := 4) X dX7_sensesNow_120 rfl rfl rfl ?_
            refine sf_imul X dX7_sensesNow_121 rfl ?_
            refine sf_iload_n (i := 1) (j := 3) X dX7_sensesNow_122 rfl rfl rfl ?_
            refine sf_bipush (v := 7) X dX7_sensesNow_123 sf_bc_7 rfl ?_
            refine sf_iload (i := 5) (j := 1) X dX7_sensesNow_125 rfl rfl ?_
            refine sf_iadd X dX7_sensesNow_127 rfl ?_
            refine sf_ishr X dX7_sensesNow_128 rfl ?_
            refine sf_iconst (v := 1) X dX7_sensesNow_129 sf_ic_1 rfl ?_
            refine sf_iand X dX7_sensesNow_130 rfl ?_
            refine sf_iconst (v := 1) X dX7_sensesNow_131 sf_ic_1 rfl ?_
            refine sf_icmp_ne (tgt := 141) X dX7_sensesNow_132 rfl rfl (fun c30 => ?_) (fun c30 => ?_)
            · have h := sf_iff c30 h
              refine sf_iload (i := 6) (j := 0) X dX7_sensesNow_141 rfl rfl ?_
              refine sf_iadd X dX7_sensesNow_143 rfl ?_
              refine sf_iconst (v := 1) X dX7_sensesNow_144 sf_ic_1 rfl ?_
              refine sf_iadd X dX7_sensesNow_145 rfl ?_
              refine sf_top (fun y31 hy31 => ?_)
              have h := h y31 hy31
              refine sf_istore_n (i := 2) (lv' := [(2, .int y31), (6, .int r29), (5, .int r19), (0, .ref (q 0)), (1, .int u0), (3, .int u2), (4, .int u3)]) X dX7_sensesNow_146 rfl (by decide) rfl rfl ?_
              refine sf_iinc (i := 4) (j := 6) (d := 1) (lv' := fun y32 => [(4, .int y32), (2, .int y31), (6, .int r29), (5, .int r19), (0, .ref (q 0)), (1, .int u0), (3, .int u2)]) X dX7_sensesNow_147 rfl sf_ic_1 (by decide) (fun _ => rfl) rfl (fun y32 hy32 => ?_)
              have h := h y32 hy32
              refine sf_goto (tgt := 72) X dX7_sensesNow_150 rfl ?_
              refine sf_loc (lv' := [(0, .ref (q 0)), (1, .int u0), (2, .int y31), (3, .int u2), (4, .int y32)]) [4, 5, 1, 6, 0] rfl ?_
              exact h
            · have h := sf_ift c30 h
              refine sf_iload (i := 6) (j := 0) X dX7_sensesNow_135 rfl rfl ?_
              refine sf_ineg X dX7_sensesNow_137 rfl ?_
              refine sf_goto (tgt := 143) X dX7_sensesNow_138 rfl ?_
              refine sf_iadd X dX7_sensesNow_143 rfl ?_
              refine sf_iconst (v := 1) X dX7_sensesNow_144 sf_ic_1 rfl ?_
              refine sf_iadd X dX7_sensesNow_145 rfl ?_
              refine sf_top (fun y33 hy33 => ?_)
              have h := h y33 hy33
              refine sf_istore_n (i := 2) (lv' := [(2, .int y33), (6, .int r29), (5, .int r19), (0, .ref (q 0)), (1, .int u0), (3, .int u2), (4, .int u3)]) X dX7_sensesNow_146 rfl (by decide) rfl rfl ?_
              refine sf_iinc (i := 4) (j := 6) (d := 1) (lv' := fun y34 => [(4, .int y34), (2, .int y33), (6, .int r29), (5, .int r19), (0, .ref (q 0)), (1, .int u0), (3, .int u2)]) X dX7_sensesNow_147 rfl sf_ic_1 (by decide) (fun _ => rfl) rfl (fun y34 hy34 => ?_)
              have h := h y34 hy34
              refine sf_goto (tgt := 72) X dX7_sensesNow_150 rfl ?_
              refine sf_loc (lv' := [(0, .ref (q 0)), (1, .int u0), (2, .int y33), (3, .int u2), (4, .int y34)]) [4, 5, 1, 6, 0] rfl ?_
              exact h
  | (_ + 4), _ => exact trivial
