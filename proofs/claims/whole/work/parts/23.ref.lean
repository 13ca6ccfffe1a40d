def tr_R_X7_leastBeside_0 (Pr : Nat → sf_St → Int32 → Int32 → Int32 → Int32 → Prop) (r : Int32) (τ : sf_St) (σ : sf_St) (u0 u1 u2 u3 : Int32) : Prop :=
  ∀ y1 : Int32, y1 = ((σ 0 0) - (1 : Int32)) → (Pr 1 σ u0 u1 (-1 : Int32) y1)
def tr_R_X7_leastBeside_1 (Pr : Nat → sf_St → Int32 → Int32 → Int32 → Int32 → Prop) (r : Int32) (τ : sf_St) (σ : sf_St) (u0 u1 u2 u3 : Int32) : Prop :=
  if u3 < (0 : Int32) then (r = u2 ∧ τ = σ) else (vp_in u3 7 ∧ (if (σ 8 (sf_ix u3)) = u1 then (∀ y5 : Int32, y5 = u3 + (-1 : Int32) → (Pr 1 σ u0 u1 u2 y5)) else (vp_in u3 7 ∧ (∃ (r9 : Int32) (τ8 : sf_St), R_X7_bondOf σ u0 (σ 8 (sf_ix u3)) r9 τ8 ∧ (if r9 < (0 : Int32) then (∀ y11 : Int32, y11 = u3 + (-1 : Int32) → (Pr 1 τ8 u0 u1 u2 y11)) else (vp_in u3 7 ∧ (∀ y13 : Int32, y13 = (τ8 8 (sf_ix u3)) → (∀ y14 : Int32, y14 = u3 + (-1 : Int32) → (Pr 1 τ8 u0 u1 y13 y14)))))))))
def fn_R_X7_leastBeside (Pr : Nat → sf_St → Int32 → Int32 → Int32 → Int32 → Prop) (r : Int32) (τ : sf_St) (t : Nat) (σ : sf_St) (u0 u1 u2 u3 : Int32) : Prop := match t with
  | 0 => tr_R_X7_leastBeside_0 Pr r τ σ u0 u1 u2 u3
  | 1 => tr_R_X7_leastBeside_1 Pr r τ σ u0 u1 u2 u3
  | _ => False
def Rn_R_X7_leastBeside (t : Nat) (σ : sf_St) (u0 u1 u2 u3 : Int32) (r : Int32) (τ : sf_St) : Prop := ∀ Pr : Nat → sf_St → Int32 → Int32 → Int32 → Int32 → Prop, (∀ (t : Nat) (σ : sf_St) (u0 u1 u2 u3 : Int32), fn_R_X7_leastBeside Pr r τ t σ u0 u1 u2 u3 → Pr t σ u0 u1 u2 u3) → Pr t σ u0 u1 u2 u3
def R_X7_leastBeside (σ : sf_St) (u0 u1 : Int32) (r : Int32) (τ : sf_St) : Prop := Rn_R_X7_leastBeside 0 σ u0 u1 0 0 r τ
theorem fe_R_X7_leastBeside_0 {Pr : Nat → sf_St → Int32 → Int32 → Int32 → Int32 → Prop} {r : Int32} {τ σ : sf_St} {u0 u1 u2 u3 : Int32} (h : fn_R_X7_leastBeside Pr r τ 0 σ u0 u1 u2 u3) : tr_R_X7_leastBeside_0 Pr r τ σ u0 u1 u2 u3 := h
theorem mo_R_X7_leastBeside_0 {Pr Pr' : Nat → sf_St → Int32 → Int32 → Int32 → Int32 → Prop} {r : Int32} {τ σ : sf_St} {u0 u1 u2 u3 : Int32} (hP : ∀ (t : Nat) (σ : sf_St) (u0 u1 u2 u3 : Int32), Pr t σ u0 u1 u2 u3 → Pr' t σ u0 u1 u2 u3) (h : tr_R_X7_leastBeside_0 Pr r τ σ u0 u1 u2 u3) : tr_R_X7_leastBeside_0 Pr' r τ σ u0 u1 u2 u3 := by
  unfold tr_R_X7_leastBeside_0 at h ⊢
  intro y1 hy1
  have h := h y1 hy1
  exact hP _ _ _ _ _ _ h
theorem ru_R_X7_leastBeside_0 {r : Int32} {τ σ : sf_St} {u0 u1 u2 u3 : Int32} (h : tr_R_X7_leastBeside_0 (fun t σ u0 u1 u2 u3 => Rn_R_X7_leastBeside t σ u0 u1 u2 u3 r τ) r τ σ u0 u1 u2 u3) : Rn_R_X7_leastBeside 0 σ u0 u1 u2 u3 r τ := fun Pr hP => hP 0 σ u0 u1 u2 u3 (mo_R_X7_leastBeside_0 (fun _ _ _ _ _ _ h => h Pr hP) h)
theorem fe_R_X7_leastBeside_1 {Pr : Nat → sf_St → Int32 → Int32 → Int32 → Int32 → Prop} {r : Int32} {τ σ : sf_St} {u0 u1 u2 u3 : Int32} (h : fn_R_X7_leastBeside Pr r τ 1 σ u0 u1 u2 u3) : tr_R_X7_leastBeside_1 Pr r τ σ u0 u1 u2 u3 := h
theorem mo_R_X7_leastBeside_1 {Pr Pr' : Nat → sf_St → Int32 → Int32 → Int32 → Int32 → Prop} {r : Int32} {τ σ : sf_St} {u0 u1 u2 u3 : Int32} (hP : ∀ (t : Nat) (σ : sf_St) (u0 u1 u2 u3 : Int32), Pr t σ u0 u1 u2 u3 → Pr' t σ u0 u1 u2 u3) (h : tr_R_X7_leastBeside_1 Pr r τ σ u0 u1 u2 u3) : tr_R_X7_leastBeside_1 Pr' r τ σ u0 u1 u2 u3 := by
  unfold tr_R_X7_leastBeside_1 at h ⊢
  refine sf_mif (fun h => ?_) (fun h => ?_) h
  · exact h
  · refine And.imp id (fun h => ?_) h
    refine sf_mif (fun h => ?_) (fun h => ?_) h
    · intro y5 hy5
      have h := h y5 hy5
      exact hP _ _ _ _ _ _ h
    · refine And.imp id (fun h => ?_) h
      refine Exists.imp (fun _ h => Exists.imp (fun _ h => And.imp id (fun h => ?_) h) h) h
      refine sf_mif (fun h => ?_) (fun h => ?_) h
      · intro y11 hy11
        have h := h y11 hy11
        exact hP _ _ _ _ _ _ h
      · refine And.imp id (fun h => ?_) h
        intro y13 hy13
        have h := h y13 hy13
        intro y14 hy14
        have h := h y14 hy14
        exact hP _ _ _ _ _ _ h
theorem ru_R_X7_leastBeside_1 {r : Int32} {τ σ : sf_St} {u0 u1 u2 u3 : Int32} (h : tr_R_X7_leastBeside_1 (fun t σ u0 u1 u2 u3 => Rn_R_X7_leastBeside t σ u0 u1 u2 u3 r τ) r τ σ u0 u1 u2 u3) : Rn_R_X7_leastBeside 1 σ u0 u1 u2 u3 r τ := fun Pr hP => hP 1 σ u0 u1 u2 u3 (mo_R_X7_leastBeside_1 (fun _ _ _ _ _ _ h => h Pr hP) h)
set_option maxHeartbeats 4000000 in
set_option maxRecDepth 100000 in
theorem c_X7_leastBeside {l : Launch} {D : va_G} {q : Nat → Nat} {dA : Nat → ClassId}  (hq : sf_inj q KM) {σ τ : sf_St} {u0 u1 : Int32} {r : Int32} (h : R_X7_leastBeside σ u0 u1 r τ) : sf_Mi l yX7_leastBeside wsX7_leastBeside ({ frames := 1, cells := 0, slots := 0, locals := 24 }) D vwCl q dA KM sf_EM [.ref (q 0), .int u0, .int u1] σ r τ := by
  refine sf_meti (cc := cX7_leastBeside) (maxL := 5) (ret := (some .int)) (own := RX7) (by decide +kernel) rfl rfl hq sf_EMk (Nat.le_of_ble_eq_true rfl) ?_
  intro p e s m args below meth c X
  refine sf_loc (lv' := [(0, .ref (q 0)), (1, .int u0), (2, .int u1)]) [0, 1, 2] rfl ?_
  refine h (fun t σ u0 u1 u2 u3 => match t with
    | 0 => sf_G p l e (headSpec wsX7_leastBeside ({ frames := 1, cells := 0, slots := 0, locals := 24 })).room s m args below meth c (sf_Qi D vwCl q dA KM sf_EM below args s r τ) 5 D vwCl q dA KM σ 0 [(0, .ref (q 0)), (1, .int u0), (2, .int u1)] []
    | 1 => sf_G p l e (headSpec wsX7_leastBeside ({ frames := 1, cells := 0, slots := 0, locals := 24 })).room s m args below meth c (sf_Qi D vwCl q dA KM sf_EM below args s r τ) 5 D vwCl q dA KM σ 10 [(0, .ref (q 0)), (1, .int u0), (2, .int u1), (3, .int u2), (4, .int u3)] []
    | _ => True) ?_
  intro t σ u0 u1 u2 u3 h
  match t, h with
  | 0, h =>
      replace h := fe_R_X7_leastBeside_0 h
      unfold tr_R_X7_leastBeside_0 at h
      show sf_G p l e (headSpec wsX7_leastBeside ({ frames := 1, cells := 0, slots := 0, locals := 24 })).room s m args below meth c (sf_Qi D vwCl q dA KM sf_EM below args s r τ) 5 D vwCl q dA KM σ 0 [(0, .ref (q 0)), (1, .int u0), (2, .int u1)] []
      refine sf_iconst (v := (-1)) X dX7_leastBeside_0 sf_ic_m1 rfl ?_
      refine sf_istore_n (i := 3) (lv' := [(3, .int (-1 : Int32)), (0, .ref (q 0)), (1, .int u0), (2, .int u1)]) X dX7_leastBeside_1 rfl (by decide) rfl rfl ?_
      refine sf_aload_n (i := 0) (j := 1) X dX7_leastBeside_2 rfl rfl rfl ?_
      refine sf_getI (C := RX7) (T := TX7) (N := 23) (ci := 7) (j := 0) X (fun w h => sf_memc (inX7 w h)) rfl rfl (by decide) (X.1.2.2.2.2 _ (sf_memc tw_631)) (fun _ h9 => h9) rfl dX7_leastBeside_3 rfl ?_
      refine sf_iconst (v := 1) X dX7_leastBeside_6 sf_ic_1 rfl ?_
      refine sf_isub X dX7_leastBeside_7 rfl ?_
      refine sf_top (fun y1 hy1 => ?_)
      have h := h y1 hy1
      refine sf_istore (i := 4) (lv' := [(4, .int y1), (3, .int (-1 : Int32)), (0, .ref (q 0)), (1, .int u0), (2, .int u1)]) X dX7_leastBeside_8 (by decide) rfl rfl ?_
      refine sf_loc (lv' := [(0, .ref (q 0)), (1, .int u0), (2, .int u1), (3, .int (-1 : Int32)), (4, .int y1)]) [2, 3, 4, 1, 0] rfl ?_
      exact h
  | 1, h =>
      replace h := fe_R_X7_leastBeside_1 h
      unfold tr_R_X7_leastBeside_1 at h
      show sf_G p l e (headSpec wsX7_leastBeside ({ frames := 1, cells := 0, slots := 0, locals := 24 })).room s m args below meth c (sf_Qi D vwCl q dA KM sf_EM below args s r τ) 5 D vwCl q dA KM σ 10 [(0, .ref (q 0)), (1, .int u0), (2, .int u1), (3, .int u2), (4, .int u3)] []
      refine sf_iload (i := 4) (j := 4) X dX7_leastBeside_10 rfl rfl ?_
      refine sf_if_lt (tgt := 59) X dX7_leastBeside_12 rfl rfl (fun c2 => ?_) (fun c2 => ?_)
      · have h := sf_ift c2 h
        refine sf_iload_n (i := 3) (j := 3) X dX7_leastBeside_59 rfl rfl rfl ?_
        exact sf_reti X h dX7_leastBeside_60
      · have h := sf_iff c2 h
        refine sf_aload_n (i := 0) (j := 0) X dX7_leastBeside_15 rfl rfl rfl ?_
        refine sf_getR (C := RX7) (T := TX7) (N := 23) (ci := 7) (j := 9) (k' := 8) X (fun w h => sf_memc (inX7 w h)) rfl rfl (by decide) (X.1.2.2.2.2 _ (sf_memc tw_640)) (fun _ h9 => h9) rfl dX7_leastBeside_16 rfl ?_
        refine sf_iload (i := 4) (j := 4) X dX7_leastBeside_19 rfl rfl ?_
        obtain ⟨b3, h⟩ := h
        refine sf_iald X rfl b3 dX7_leastBeside_21 rfl ?_
        refine sf_iload_n (i := 2) (j := 2) X dX7_leastBeside_22 rfl rfl rfl ?_
        refine sf_icmp_eq (tgt := 51) X dX7_leastBeside_23 rfl rfl (fun c4 => ?_) (fun c4 => ?_)
        · have h := sf_ift c4 h
          refine sf_iload_n (i := 3) (j := 3) X dX7_leastBeside_51 rfl rfl rfl ?_
          refine sf_istore_n (i := 3) (lv' := [(3, .int u2), (0, .ref (q 0)), (1, .int u0), (2, .int u1), (4, .int u3)]) X dX7_leastBeside_52 rfl (by decide) rfl rfl ?_
          refine sf_iinc (i := 4) (j := 4) (d := (-1)) (lv' := fun y5 => [(4, .int y5), (3, .int u2), (0, .ref (q 0)), (1, .int u0), (2, .int u1)]) X dX7_leastBeside_53 rfl sf_ic_m1 (by decide) (fun _ => rfl) rfl (fun y5 hy5 => ?_)
          have h := h y5 hy5
          refine sf_goto (tgt := 10) X dX7_leastBeside_56 rfl ?_
          refine sf_loc (lv' := [(0, .ref (q 0)), (1, .int u0), (2, .int u1), (3, .int u2), (4, .int y5)]) [2, 3, 4, 1, 0] rfl ?_
          exact h
        · have h := sf_iff c4 h
          refine sf_aload_n (i := 0) (j := 0) X dX7_leastBeside_26 rfl rfl rfl ?_
          refine sf_iload_n (i := 1) (j := 1) X dX7_leastBeside_27 rfl rfl rfl ?_
          refine sf_aload_n (i := 0) (j := 0) X dX7_leastBeside_28 rfl rfl rfl ?_
          refine sf_getR (C := RX7) (T := TX7) (N := 23) (ci := 7) (j := 9) (k' := 8) X (fun w h => sf_memc (inX7 w h)) rfl rfl (by decide) (X.1.2.2.2.2 _ (sf_memc tw_640)) (fun _ h9 => h9) rfl dX7_leastBeside_29 rfl ?_
          refine sf_iload (i := 4) (j := 4) X dX7_leastBeside_32 rfl rfl ?_
          obtain ⟨b6, h⟩ := h
          refine sf_iald X rfl b6 dX7_leastBeside_34 rfl ?_
          obtain ⟨r9, τ8, hR7, h⟩ := h
          refine sf_callVi (As := [.int u0, .int (σ 8 (sf_ix u3))]) (rest := []) (cv := (RX7, TX7, 23)) X rfl rfl (c_X7_bondOf hq hR7) (cwV 2 X.1.2.2.2.2 (sf_gV tw_716 tw_718 tw_16 tw_48 tw_719) rfl rfl rfl ⟨rfl, hd_X7_bondOf⟩ ⟨Nat.le_of_ble_eq_true rfl, Nat.le_of_ble_eq_true rfl⟩) rfl rfl (Nat.le_of_ble_eq_true rfl) dX7_leastBeside_35 rfl ?_
          refine sf_if_lt (tgt := 51) X dX7_leastBeside_38 rfl rfl (fun c10 => ?_) (fun c10 => ?_)
          · have h := sf_ift c10 h
            refine sf_iload_n (i := 3) (j := 3) X dX7_leastBeside_51 rfl rfl rfl ?_
            refine sf_istore_n (i := 3) (lv' := [(3, .int u2), (0, .ref (q 0)), (1, .int u0), (2, .int u1), (4, .int u3)]) X dX7_leastBeside_52 rfl (by decide) rfl rfl ?_
            refine sf_iinc (i := 4) (j := 4) (d := (-1)) (lv' := fun y11 => [(4, .int y11), (3, .int u2), (0, .ref (q 0)), (1, .int u0), (2, .int u1)]) X dX7_leastBeside_53 rfl sf_ic_m1 (by decide) (fun _ => rfl) rfl (fun y11 hy11 => ?_)
            have h := h y11 hy11
            refine sf_goto (tgt := 10) X dX7_leastBeside_56 rfl ?_
            refine sf_loc (lv' := [(0, .ref (q 0)), (1, .int u0), (2, .int u1), (3, .int u2), (4, .int y11)]) [2, 3, 4, 1, 0] rfl ?_
            exact h
          · have h := sf_iff c10 h
            refine sf_aload_n (i := 0) (j := 0) X dX7_leastBeside_41 rfl rfl rfl ?_
            refine sf_getR (C := RX7) (T := TX7) (N := 23) (ci := 7) (j := 9) (k' := 8) X (fun w h => sf_memc (inX7 w h)) rfl rfl (by decide) (X.1.2.2.2.2 _ (sf_memc tw_640)) (fun _ h9 => h9) rfl dX7_leastBeside_42 rfl ?_
            refine sf_iload (i := 4) (j := 4) X dX7_leastBeside_45 rfl rfl ?_
            obtain ⟨b12, h⟩ := h
            refine sf_iald X rfl b12 dX7_leastBeside_47 rfl ?_
            refine sf_goto (tgt := 52) X dX7_leastBeside_48 rfl ?_
            refine sf_top (fun y13 hy13 => ?_)
            have h := h y13 hy13
            refine sf_istore_n (i := 3) (lv' := [(3, .int y13), (0, .ref (q 0)), (1, .int u0), (2, .int u1), (4, .int u3)]) X dX7_leastBeside_52 rfl (by decide) rfl rfl ?_
            refine sf_iinc (i := 4) (j := 4) (d := (-1)) (lv' := fun y14 => [(4, .int y14), (3, .int y13), (0, .ref (q 0)), (1, .int u0), (2, .int u1)]) X dX7_leastBeside_53 rfl sf_ic_m1 (by decide) (fun _ => rfl) rfl (fun y14 hy14 => ?_)
            have h := h y14 hy14
            refine sf_goto (tgt := 10) X dX7_leastBeside_56 rfl ?_
            refine sf_loc (lv' := [(0, .ref (q 0)), (1, .int u0), (2, .int u1), (3, .int y13), (4, .int y14)]) [2, 3, 4, 1, 0] rfl ?_
            exact h
  | (_ + 2), _ => exact trivial
def R_X7_hingeSense (σ : sf_St) (u0 : Int32) (r : Int32) (τ : sf_St) : Prop :=
  ∃ (r3 : Int32) (τ2 : sf_St), R_X7_isHinge σ u0 r3 τ2 ∧ (if r3 = (0 : Int32) then (r = (0 : Int32) ∧ τ = τ2) else (vp_in u0 9 ∧ (vp_in (τ2 4 (sf_ix u0)) 7 ∧ (vp_in u0 9 ∧ (vp_in (τ2 5 (sf_ix u0)) 7 ∧ (if (τ2 9 (sf_ix (τ2 4 (sf_ix u0)))) ≤ (τ2 9 (sf_ix (τ2 5 (sf_ix u0)))) then (if (0 : Int32) = (0 : Int32) then (vp_in u0 9 ∧ (∀ y12 : Int32, y12 = (τ2 4 (sf_ix u0)) → (if (0 : Int32) = (0 : Int32) then (vp_in u0 9 ∧ (∀ y15 : Int32, y15 = (τ2 5 (sf_ix u0)) → (∃ (r18 : Int32) (τ17 : sf_St), R_X7_isClear τ2 y12 y15 y12 y15 r18 τ17 ∧ (if r18 = (0 : Int32) then (r = (0 : Int32) ∧ τ = τ17) else (∃ (r22 : Int32) (τ21 : sf_St), R_X7_isClear τ17 y12 y15 y15 y12 r22 τ21 ∧ (if r22 = (0 : Int32) then (r = (0 : Int32) ∧ τ = τ21) else (∃ (r26 : Int32) (τ25 : sf_St), R_X7_leastBeside τ21 y12 y15 r26 τ25 ∧ (∃ (r29 : Int32) (τ28 : sf_St), R_X7_side τ25 y12 y15 r26 r29 τ28 ∧ (∃ (r32 : Int32) (τ31 : sf_St), R_X7_leastBeside τ28 y15 y12 r32 τ31 ∧ (∃ (r35 : Int32) (τ34 : sf_St), R_X7_side τ31 y12 y15 r32 r35 τ34 ∧ (r = (r29 * r35) ∧ τ = τ34))))))))))) else (vp_in u0 9 ∧ (∀ y37 : Int32, y37 = (τ2 4 (sf_ix u0)) → (∃ (r40 : Int32) (τ39 : sf_St), R_X7_isClear τ2 y12 y37 y12 y37 r40 τ39 ∧ (if r40 = (0 : Int32) then (r = (0 : Int32) ∧ τ = τ39) else (∃ (r44 : Int32) (τ43 : sf_St), R_X7_isClear τ39 y12 y37 y37 y12 r44 τ43 ∧ (if r44 = (0 : Int32) then (r = (0 : Int32) ∧ τ = τ43) else (∃ (r48 : Int32) (τ47 : sf_St), R_X7_leastBeside τ43 y12 y37 r48 τ47 ∧ (∃ (r51 : Int32) (τ50 : sf_St), R_X7_side τ47 y12 y37 r48 r51 τ50 ∧ (∃ (r54 : Int32) (τ53 : sf_St), R_X7_leastBeside τ50 y37 y12 r54 τ53 ∧ (∃ (r57 : Int32) (τ56 : sf_St), R_X7_side τ53 y12 y37 r54 r57 τ56 ∧ (r = (r51 * r57) ∧ τ = τ56)))))))))))))) else (vp_in u0 9 ∧ (∀ y59 : Int32, y59 = (τ2 5 (sf_ix u0)) → (if (0 : Int32) = (0 : Int32) then (vp_in u0 9 ∧ (∀ y62 : Int32, y62 = (τ2 5 (sf_ix u0)) → (∃ (r65 : Int32) (τ64 : sf_St), R_X7_isClear τ2 y59 y62 y59 y62 r65 τ64 ∧ (if r65 = (0 : Int32) then (r = (0 : Int32) ∧ τ = τ64) else (∃ (r69 : Int32) (τ68 : sf_St), R_X7_isClear τ64 y59 y62 y62 y59 r69 τ68 ∧ (if r69 = (0 : Int32) then (r = (0 : Int32) ∧ τ = τ68) else (∃ (r73 : Int32) (τ72 : sf_St), R_X7_leastBeside τ68 y59 y62 r73 τ72 ∧ (∃ (r76 : Int32) (τ75 : sf_St), R_X7_side τ72 y59 y62 r73 r76 τ75 ∧ (∃ (r79 : Int32) (τ78 : sf_St), R_X7_leastBeside τ75 y62 y59 r79 τ78 ∧ (∃ (r82 : Int32) (τ81 : sf_St), R_X7_side τ78 y59 y62 r79 r82 τ81 ∧ (r = (r76 * r82) ∧ τ = τ81))))))))))) else (vp_in u0 9 ∧ (∀ y84 : Int32, y84 = (τ2 4 (sf_ix u0)) → (∃ (r87 : Int32) (τ86 : sf_St), R_X7_isClear τ2 y59 y84 y59 y84 r87 τ86 ∧ (if r87 = (0 : Int32) then (r = (0 : Int32) ∧ τ = τ86) else (∃ (r91 : Int32) (τ90 : sf_St), R_X7_isClear τ86 y59 y84 y84 y59 r91 τ90 ∧ (if r91 = (0 : Int32) then (r = (0 : Int32) ∧ τ = τ90) else (∃ (r95 : Int32) (τ94 : sf_St), R_X7_leastBeside τ90 y59 y84 r95 τ94 ∧ (∃ (r98 : Int32) (τ97 : sf_St), R_X7_side τ94 y59 y84 r95 r98 τ97 ∧ (∃ (r101 : Int32) (τ100 : sf_St), R_X7_leastBeside τ97 y84 y59 r101 τ100 ∧ (∃ (r104 : Int32) (τ103 : sf_St), R_X7_side τ100 y59 y84 r101 r104 τ103 ∧ (r = (r98 * r104) ∧ τ = τ103))))))))))))))) else (if (1 : Int32) = (0 : Int32) then (vp_in u0 9 ∧ (∀ y107 : Int32, y107 = (τ2 4 (sf_ix u0)) → (if (1 : Int32) = (0 : Int32) then (vp_in u0 9 ∧ (∀ y110 : Int32, y110 = (τ2 5 (sf_ix u0)) → (∃ (r113 : Int32) (τ112 : sf_St), R_X7_isClear τ2 y107 y110 y107 y110 r113 τ112 ∧ (if r113 = (0 : Int32) then (r = (0 : Int32) ∧ τ = τ112) else (∃ (r117 : Int32) (τ116 : sf_St), R_X7_isClear τ112 y107 y110 y110 y107 r117 τ116 ∧ (if r117 = (0 : Int32) then (r = (0 : Int32) ∧ τ = τ116) else (∃ (r121 : Int32) (τ120 : sf_St), R_X7_leastBeside τ116 y107 y110 r121 τ120 ∧ (∃ (r124 : Int32) (τ123 : sf_St), R_X7_side τ120 y107 y110 r121 r124 τ123 ∧ (∃ (r127 : Int32) (τ126 : sf_St), R_X7_leastBeside τ123 y110 y107 r127 τ126 ∧ (∃ (r130 : Int32) (τ129 : sf_St), R_X7_side τ126 y107 y110 r127 r130 τ129 ∧ (r = (r124 * r130) ∧ τ = τ129))))))))))) else (vp_in u0 9 ∧ (∀ y132 : Int32, y132 = (τ2 4 (sf_ix u0)) → (∃ (r135 : Int32) (τ134 : sf_St), R_X7_isClear τ2 y107 y132 y107 y132 r135 τ134 ∧ (if r135 = (0 : Int32) then (r = (0 : Int32) ∧ τ = τ134) else (∃ (r139 : Int32) (τ138 : sf_St), R_X7_isClear τ134 y107 y132 y132 y107 r139 τ138 ∧ (if r139 = (0 : Int32) then (r = (0 : Int32) ∧ τ = τ138) else (∃ (r143 : Int32) (τ142 : sf_St), R_X7_leastBeside τ138 y107 y132 r143 τ142 ∧ (∃ (r146 : Int32) (τ145 : sf_St), R_X7_side τ142 y107 y132 r143 r146 τ145 ∧ (∃ (r149 : Int32) (τ148 : sf_St), R_X7_leastBeside τ145 y132 y107 r149 τ148 ∧ (∃ (r152 : Int32) (τ151 : sf_St), R_X7_side τ148 y107 y132 r149 r152 τ151 ∧ (r = (r146 * r152) ∧ τ = τ151)))))))))))))) else (vp_in u0 9 ∧ (∀ y154 : Int32, y154 = (τ2 5 (sf_ix u0)) → (if (1 : Int32) = (0 : Int32) then (vp_in u0 9 ∧ (∀ y157 : Int32, y157 = (τ2 5 (sf_ix u0)) → (∃ (r160 : Int32) (τ159 : sf_St), R_X7_isClear τ2 y154 y157 y154 y157 r160 τ159 ∧ (if r160 = (0 : Int32) then (r = (0 : Int32) ∧ τ = τ159) else (∃ (r164 : Int32) (τ163 : sf_St), R_X7_isClear τ159 y154 y157 y157 y154 r164 τ163 ∧ (if r164 = (0 : Int32) then (r = (0 : Int32) ∧ τ = τ163) else (∃ (r168 : Int32) (τ167 : sf_St), R_X7_leastBeside τ163 y154 y157 r168 τ167 ∧ (∃ (r171 : Int32) (τ170 : sf_St), R_X7_side τ167 y154 y157 r168 r171 τ170 ∧ (∃ (r174 : Int32) (τ173 : sf_St), R_X7_leastBeside τ170 y157 y154 r174 τ173 ∧ (∃ (r177 : Int32) (τ176 : sf_St), R_X7_side τ173 y154 y157 r174 r177 τ176 ∧ (r = (r171 * r177) ∧ τ = τ176))))))))))) else (vp_in u0 9 ∧ (∀ y179 : Int32, y179 = (τ2 4 (sf_ix u0)) → (∃ (r182 : Int32) (τ181 : sf_St), R_X7_isClear τ2 y154 y179 y154 y179 r182 τ181 ∧ (if r182 = (0 : Int32) then (r = (0 : Int32) ∧ τ = τ181) else (∃ (r186 : Int32) (τ185 : sf_St), R_X7_isClear τ181 y154 y179 y179 y154 r186 τ185 ∧ (if r186 = (0 : Int32) then (r = (0 : Int32) ∧ τ = τ185) else (∃ (r190 : Int32) (τ189 : sf_St), R_X7_leastBeside τ185 y154 y179 r190 τ189 ∧ (∃ (r193 : Int32) (τ192 : sf_St), R_X7_side τ189 y154 y179 r190 r193 τ192 ∧ (∃ (r196 : Int32) (τ195 : sf_St), R_X7_leastBeside τ192 y179 y154 r196 τ195 ∧ (∃ (r199 : Int32) (τ198 : sf_St), R_X7_side τ195 y154 y179 r196 r199 τ198 ∧ (r = (r193 * r199) ∧ τ = τ198)))))))))))))))))))))
set_option maxHeartbeats 4000000 in
set_option maxRecDepth 100000 in
theorem c_X7_hingeSense {l : Launch} {D : va_G} {q : Nat → Nat} {dA : Nat → ClassId}  (hq : sf_inj q KM) {σ τ : sf_St} {u0 : Int32} {r : Int32} (h : R_X7_hingeSense σ u0 r τ) : sf_Mi l yX7_hingeSense wsX7_hingeSense ({ frames := 3, cells := 0, slots := 0, locals := 73 }) D vwCl q dA KM sf_EM [.ref (q 0), .int u0] σ r τ := by
  refine sf_meti (cc := cX7_hingeSense) (maxL := 5) (ret := (some .int)) (own := RX7) (by decide +kernel) rfl rfl hq sf_EMk (Nat.le_of_ble_eq_true rfl) ?_
  intro p e s m args below meth c X
  unfold R_X7_hingeSense at h
  refine sf_loc (lv' := [(0, .ref (q 0)), (1, .int u0)]) [0, 1] rfl ?_
  refine sf_aload_n (i := 0) (j := 0) X dX7_hingeSense_0 rfl rfl rfl ?_
  refine sf_iload_n (i := 1) (j := 1) X dX7_hingeSense_1 rfl rfl rfl ?_
  obtain ⟨r3, τ2, hR1, h⟩ := h
  refine sf_callVi (As := [.int u0]) (rest := []) (cv := (RX7, TX7, 23)) X rfl rfl (c_X7_isHinge hq hR1) (cwV 1 X.1.2.2.2.2 (sf_gV tw_786 tw_788 tw_25 tw_48 tw_789) rfl rfl rfl ⟨rfl, hd_X7_isHinge⟩ ⟨Nat.le_of_ble_eq_true rfl, Nat.le_of_ble_eq_true rfl⟩) rfl rfl (Nat.le_of_ble_eq_true rfl) dX7_hingeSense_2 rfl ?_
  refine sf_if_ne (tgt := 10) X dX7_hingeSense_5 rfl rfl (fun c4 => ?_) (fun c4 => ?_)
  · have h := sf_iff c4 h
    refine sf_aload_n (i := 0) (j := 0) X dX7_hingeSense_10 rfl rfl rfl ?_
    refine sf_getR (C := RX7) (T := TX7) (N := 23) (ci := 7) (j := 10) (k' := 9) X (fun w h => sf_memc (inX7 w h)) rfl rfl (by decide) (X.1.2.2.2.2 _ (sf_memc tw_641)) (fun _ h9 => h9) rfl dX7_hingeSense_11 rfl ?_
    refine sf_aload_n (i := 0) (j := 0) X dX7_hingeSense_14 rfl rfl rfl ?_
    refine sf_getR (C := RX7) (T := TX7) (N := 23) (ci := 7) (j := 5) (k' := 4) X (fun w h => sf_memc (inX7 w h)) rfl rfl (by decide) (X.1.2.2.2.2 _ (sf_memc tw_636)) (fun _ h9 => h9) rfl dX7_hingeSense_15 rfl ?_
    refine sf_iload_n (i := 1) (j := 1) X dX7_hingeSense_18 rfl rfl rfl ?_
    obtain ⟨b5, h⟩ := h
    refine sf_iald X rfl b5 dX7_hingeSense_19 rfl ?_
    obtain ⟨b6, h⟩ := h
    refine sf_iald X rfl b6 dX7_hingeSense_20 rfl ?_
    refine sf_aload_n (i := 0) (j := 0) X dX7_hingeSense_21 rfl rfl rfl ?_
    refine sf_getR (C := RX7) (T := TX7) (N := 23) (ci := 7) (j := 10) (k' := 9) X (fun w h => sf_memc (inX7 w h)) rfl rfl (by decide) (X.1.2.2.2.2 _ (sf_memc tw_641)) (fun _ h9 => h9) rfl dX7_hingeSense_22 rfl ?_
    refine sf_aload_n (i := 0) (j := 0) X dX7_hingeSense_25 rfl rfl rfl ?_
    refine sf_getR (C := RX7) (T := TX7) (N := 23) (ci := 7) (j := 6) (k' := 5) X (fun w h => sf_memc (inX7 w h)) rfl rfl (by decide) (X.1.2.2.2.2 _ (sf_memc tw_637)) (fun _ h9 => h9) rfl dX7_hingeSense_26 rfl ?_
    refine sf_iload_n (i := 1) (j := 1) X dX7_hingeSense_29 rfl rfl rfl ?_
    obtain ⟨b7, h⟩ := h
    refine sf_iald X rfl b7 dX7_hingeSense_30 rfl ?_
    obtain ⟨b8, h⟩ := h
    refine sf_iald X rfl b8 dX7_hingeSense_31 rfl ?_
    refine sf_icmp_le (tgt := 39) X dX7_hingeSense_32 rfl rfl (fun c9 => ?_) (fun c9 => ?_)
    · have h := sf_ift c9 h
      refine sf_iconst (v := 0) X dX7_hingeSense_39 sf_ic_0 rfl ?_
      refine sf_istore_n (i := 2) (lv' := [(2, .int (0 : Int32)), (0, .ref (q 0)), (1, .int u0)]) X dX7_hingeSense_40 rfl (by decide) rfl rfl ?_
      refine sf_iload_n (i := 2) (j := 0) X dX7_hingeSense_41 rfl rfl rfl ?_
      refine sf_if_eq (tgt := 54) X dX7_hingeSense_42 rfl rfl (fun c10 => ?_) (fun c10 => ?_)
      · have h := sf_ift c10 h
        refine sf_aload_n (i := 0) (j := 1) X dX7_hingeSense_54 rfl rfl rfl ?_
        refine sf_getR (C := RX7) (T := TX7) (N := 23) (ci := 7) (j := 5) (k' := 4) X (fun w h => sf_memc (inX7 w h)) rfl rfl (by decide) (X.1.2.2.2.2 _ (sf_memc tw_636)) (fun _ h9 => h9) rfl dX7_hingeSense_55 rfl ?_
        refine sf_iload_n (i := 1) (j := 2) X dX7_hingeSense_58 rfl rfl rfl ?_
        obtain ⟨b11, h⟩ := h
        refine sf_iald X rfl b11 dX7_hingeSense_59 rfl ?_
        refine sf_top (fun y12 hy12 => ?_)
        have h := h y12 hy12
        refine sf_istore_n (i := 3) (lv' := [(3, .int y12), (2, .int (0 : Int32)), (0, .ref (q 0)), (1, .int u0)]) X dX7_hingeSense_60 rfl (by decide) rfl rfl ?_
        refine sf_iload_n (i := 2) (j := 1) X dX7_hingeSense_61 rfl rfl rfl ?_
        refine sf_if_eq (tgt := 74) X dX7_hingeSense_62 rfl rfl (fun c13 => ?_) (fun c13 => ?_)
        · have h := sf_ift c13 h
          refine sf_aload_n (i := 0) (j := 2) X dX7_hingeSense_74 rfl rfl rfl ?_
          refine sf_getR (C := RX7) (T := TX7) (N := 23) (ci := 7) (j := 6) (k' := 5) X (fun w h => sf_memc (inX7 w h)) rfl rfl (by decide) (X.1.2.2.2.2 _ (sf_memc tw_637)) (fun _ h9 => h9) rfl dX7_hingeSense_75 rfl ?_
          refine sf_iload_n (i := 1) (j := 3) X dX7_hingeSense_78 rfl rfl rfl ?_
          obtain ⟨b14, h⟩ := h
          refine sf_iald X rfl b14 dX7_hingeSense_79 rfl ?_
          refine sf_top (fun y15 hy15 => ?_)
          have h := h y15 hy15
          refine sf_istore (i := 4) (lv' := [(4, .int y15), (3, .int y12), (2, .int (0 : Int32)), (0, .ref (q 0)), (1, .int u0)]) X dX7_hingeSense_80 (by decide) rfl rfl ?_
          refine sf_aload_n (i := 0) (j := 3) X dX7_hingeSense_82 rfl rfl rfl ?_
          refine sf_iload_n (i := 3) (j := 1) X dX7_hingeSense_83 rfl rfl rfl ?_
          refine sf_iload (i := 4) (j := 0) X dX7_hingeSense_84 rfl rfl ?_
          refine sf_iload_n (i := 3) (j := 1) X dX7_hingeSense_86 rfl rfl rfl ?_
          refine sf_iload (i := 4) (j := 0) X dX7_hingeSense_87 rfl rfl ?_
          obtain ⟨r18, τ17, hR16, h⟩ := h
          refine sf_callVi (As := [.int y12, .int y15, .int y12, .int y15]) (rest := []) (cv := (RX7, TX7, 23)) X rfl rfl (c_X7_isClear hq hR16) (cwV 4 X.1.2.2.2.2 (sf_gV tw_790 tw_792 tw_26 tw_48 tw_793) rfl rfl rfl ⟨rfl, hd_X7_isClear⟩ ⟨Nat.le_of_ble_eq_true rfl, Nat.le_of_ble_eq_true rfl⟩) rfl rfl (Nat.le_of_ble_eq_true rfl) dX7_hingeSense_89 rfl ?_
          refine sf_if_eq (tgt := 140) X dX7_hingeSense_92 rfl rfl (fun c19 => ?_) (fun c19 => ?_)
          · have h := sf_ift c19 h
            refine sf_iconst (v := 0) X dX7_hingeSense_140 sf_ic_0 rfl ?_
            exact sf_reti X h dX7_hingeSense_141
          · have h := sf_iff c19 h
            refine sf_aload_n (i := 0) (j := 3) X dX7_hingeSense_95 rfl rfl rfl ?_
            refine sf_iload_n (i := 3) (j := 1) X dX7_hingeSense_96 rfl rfl rfl ?_
            refine sf_iload (i := 4) (j := 0) X dX7_hingeSense_97 rfl rfl ?_
            refine sf_iload (i := 4) (j := 0) X dX7_hingeSense_99 rfl rfl ?_
            refine sf_iload_n (i := 3) (j := 1) X dX7_hingeSense_101 rfl rfl rfl ?_
            obtain ⟨r22, τ21, hR20, h⟩ := h
            refine sf_callVi (As := [.int y12, .int y15, .int y15, .int y12]) (rest := []) (cv := (RX7, TX7, 23)) X rfl rfl (c_X7_isClear hq hR20) (cwV 4 X.1.2.2.2.2 (sf_gV tw_790 tw_792 tw_26 tw_48 tw_793) rfl rfl rfl ⟨rfl, hd_X7_isClear⟩ ⟨Nat.le_of_ble_eq_true rfl, Nat.le_of_ble_eq_true rfl⟩) rfl rfl (Nat.le_of_ble_eq_true rfl) dX7_hingeSense_102 rfl ?_
            refine sf_if_eq (tgt := 140) X dX7_hingeSense_105 rfl rfl (fun c23 => ?_) (fun c23 => ?_)
            · have h := sf_ift c23 h
              refine sf_iconst (v := 0) X dX7_hingeSense_140 sf_ic_0 rfl ?_
              exact sf_reti X h dX7_hingeSense_141
            · have h := sf_iff c23 h
              refine sf_aload_n (i := 0) (j := 3) X dX7_hingeSense_108 rfl rfl rfl ?_
              refine sf_iload_n (i := 3) (j := 1) X dX7_hingeSense_109 rfl rfl rfl ?_
              refine sf_iload (i := 4) (j := 0) X dX7_hingeSense_110 rfl rfl ?_
              refine sf_aload_n (i := 0) (j := 3) X dX7_hingeSense_112 rfl rfl rfl ?_
              refine sf_iload_n (i := 3) (j := 1) X dX7_hingeSense_113 rfl rfl rfl ?_
              refine sf_iload (i := 4) (j := 0) X dX7_hingeSense_114 rfl rfl ?_
              obtain ⟨r26, τ25, hR24, h⟩ := h
              refine sf_callVi (As := [.int y12, .int y15]) (rest := [.int y15, .int y12, .ref (q 0)]) (cv := (RX7, TX7, 23)) X rfl rfl (c_X7_leastBeside hq hR24) (cwV 2 X.1.2.2.2.2 (sf_gV tw_798 tw_800 tw_28 tw_48 tw_801) rfl rfl rfl ⟨rfl, hd_X7_leastBeside⟩ ⟨Nat.le_of_ble_eq_true rfl, Nat.le_of_ble_eq_true rfl⟩) rfl rfl (Nat.le_of_ble_eq_true rfl) dX7_hingeSense_116 rfl ?_
              obtain ⟨r29, τ28, hR27, h⟩ := h
              refine sf_callVi (As := [.int y12, .int y15, .int r26]) (rest := []) (cv := (RX7, TX7, 23)) X rfl rfl (c_X7_side hq hR27) (cwV 3 X.1.2.2.2.2 (sf_gV tw_794 tw_796 tw_27 tw_48 tw_797) rfl rfl rfl ⟨rfl, hd_X7_side⟩ ⟨Nat.le_of_ble_eq_true rfl, Nat.le_of_ble_eq_true rfl⟩) rfl rfl (Nat.le_of_ble_eq_true rfl) dX7_hingeSense_119 rfl ?_
              refine sf_aload_n (i := 0) (j := 3) X dX7_hingeSense_122 rfl rfl rfl ?_
              refine sf_iload_n (i := 3) (j := 1) X dX7_hingeSense_123 rfl rfl rfl ?_
              refine sf_iload (i := 4) (j := 0) X dX7_hingeSense_124 rfl rfl ?_
              refine sf_aload_n (i := 0) (j := 3) X dX7_hingeSense_126 rfl rfl rfl ?_
              refine sf_iload (i := 4) (j := 0) X dX7_hingeSense_127 rfl rfl ?_
              refine sf_iload_n (i := 3) (j := 1) X dX7_hingeSense_129 rfl rfl rfl ?_
              obtain ⟨r32, τ31, hR30, h⟩ := h
              refine sf_callVi (As := [.int y15, .int y12]) (rest := [.int y15, .int y12, .ref (q 0), .int r29]) (cv := (RX7, TX7, 23)) X rfl rfl (c_X7_leastBeside hq hR30) (cwV 2 X.1.2.2.2.2 (sf_gV tw_798 tw_800 tw_28 tw_48 tw_801) rfl rfl rfl ⟨rfl, hd_X7_leastBeside⟩ ⟨Nat.le_of_ble_eq_true rfl, Nat.le_of_ble_eq_true rfl⟩) rfl rfl (Nat.le_of_ble_eq_true rfl) dX7_hingeSense_130 rfl ?_
              obtain ⟨r35, τ34, hR33, h⟩ := h
              refine sf_callVi (As := [.int y12, .int y15, .int r32]) (rest := [.int r29]) (cv := (RX7, TX7, 23)) X rfl rfl (c_X7_side hq hR33) (cwV 3 X.1.2.2.2.2 (sf_gV tw_794 tw_796 tw_27 tw_48 tw_797) rfl rfl rfl ⟨rfl, hd_X7_side⟩ ⟨Nat.le_of_ble_eq_true rfl, Nat.le_of_ble_eq_true rfl⟩) rfl rfl (Nat.le_of_ble_eq_true rfl) dX7_hingeSense_133 rfl ?_
              refine sf_imul X dX7_hingeSense_136 rfl ?_
              refine sf_goto (tgt := 141) X dX7_hingeSense_137 rfl ?_
              exact sf_reti X h dX7_hingeSense_141
        · have h := sf_iff c13 h
          refine sf_aload_n (i := 0) (j := 2) X dX7_hingeSense_65 rfl rfl rfl ?_
          refine sf_getR (C := RX7) (T := TX7) (N := 23) (ci := 7) (j := 5) (k' := 4) X (fun w h => sf_memc (inX7 w h)) rfl rfl (by decide) (X.1.2.2.2.2 _ (sf_memc tw_636)) (fun _ h9 => h9) rfl dX7_hingeSense_66 rfl ?_
          refine sf_iload_n (i := 1) (j := 3) X dX7_hingeSense_69 rfl rfl rfl ?_
          obtain ⟨b36, h⟩ := h
          refine sf_iald X rfl b36 dX7_hingeSense_70 rfl ?_
          refine sf_goto (tgt := 80) X dX7_hingeSense_71 rfl ?_
          refine sf_top (fun y37 hy37 => ?_)
          have h := h y37 hy37
          refine sf_istore (i := 4) (lv' := [(4, .int y37), (3, .int y12), (2, .int (0 : Int32)), (0, .ref (q 0)), (1, .int u0)]) X dX7_hingeSense_80 (by decide) rfl rfl ?_
          refine sf_aload_n (i := 0) (j := 3) X dX7_hingeSense_82 rfl rfl rfl ?_
          refine sf_iload_n (i := 3) (j := 1) X dX7_hingeSense_83 rfl rfl rfl ?_
          refine sf_iload (i := 4) (j := 0) X dX7_hingeSense_84 rfl rfl ?_
          refine sf_iload_n (i := 3) (j := 1) X dX7_hingeSense_86 rfl rfl rfl ?_
          refine sf_iload (i := 4) (j := 0) X dX7_hingeSense_87 rfl rfl ?_
          obtain ⟨r40, τ39, hR38, h⟩ := h
          refine sf_callVi (As := [.int y12, .int y37, .int y12, .int y37]) (rest := []) (cv := (RX7, TX7, 23)) X rfl rfl (c_X7_isClear hq hR38) (cwV 4 X.1.2.2.2.2 (sf_gV tw_790 tw_792 tw_26 tw_48 tw_793) rfl rfl rfl ⟨rfl, hd_X7_isClear⟩ ⟨Nat.le_of_ble_eq_true rfl, Nat.le_of_ble_eq_true rfl⟩) rfl rfl (Nat.le_of_ble_eq_true rfl) dX7_hingeSense_89 rfl ?_
          refine sf_if_eq (tgt := 140) X dX7_hingeSense_92 rfl rfl (fun c41 => ?_) (fun c41 => ?_)
          · have h := sf_ift c41 h
            refine sf_iconst (v := 0) X dX7_hingeSense_140 sf_ic_0 rfl ?_
            exact sf_reti X h dX7_hingeSense_141
          · have h := sf_iff c41 h
            refine sf_aload_n (i := 0) (j := 3) X dX7_hingeSense_95 rfl rfl rfl ?_
            refine sf_iload_n (i := 3) (j := 1) X dX7_hingeSense_96 rfl rfl rfl ?_
            refine sf_iload (i := 4) (j := 0) X dX7_hingeSense_97 rfl rfl ?_
            refine sf_iload (i := 4) (j := 0) X dX7_hingeSense_99 rfl rfl ?_
            refine sf_iload_n (i := 3) (j := 1) X dX7_hingeSense_101 rfl rfl rfl ?_
            obtain ⟨r44, τ43, hR42, h⟩ := h
            refine sf_callVi (As := [.int y12, .int y37, .int y37, .int y12]) (rest := []) (cv := (RX7, TX7, 23)) X rfl rfl (c_X7_isClear hq hR42) (cwV 4 X.1.2.2.2.2 (sf_gV tw_790 tw_792 tw_26 tw_48 tw_793) rfl rfl rfl ⟨rfl, hd_X7_isClear⟩ ⟨Nat.le_of_ble_eq_true rfl, Nat.le_of_ble_eq_true rfl⟩) rfl rfl (Nat.le_of_ble_eq_true rfl) dX7_hingeSense_102 rfl ?_
            refine sf_if_eq (tgt := 140) X dX7_hingeSense_105 rfl rfl (fun c45 => ?_) (fun c45 => ?_)
            · have h := sf_ift c45 h
              refine sf_iconst (v := 0) X dX7_hingeSense_140 sf_ic_0 rfl ?_
              exact sf_reti X h dX7_hingeSense_141
            · have h := sf_iff c45 h
              refine sf_aload_n (i := 0) (j := 3) X dX7_hingeSense_108 rfl rfl rfl ?_
              refine sf_iload_n (i := 3) (j := 1) X dX7_hingeSense_109 rfl rfl rfl ?_
              refine sf_iload (i := 4) (j := 0) X dX7_hingeSense_110 rfl rfl ?_
              refine sf_aload_n (i := 0) (j := 3) X dX7_hingeSense_112 rfl rfl rfl ?_
              refine sf_iload_n (i := 3) (j := 1) X dX7_hingeSense_113 rfl rfl rfl ?_
              refine sf_iload (i := 4) (j := 0) X dX7_hingeSense_114 rfl rfl ?_
              obtain ⟨r48, τ47, hR46, h⟩ := h
              refine sf_callVi (As := [.int y12, .int y37]) (rest := [.int y37, .int y12, .ref (q 0)]) (cv := (RX7, TX7, 23)) X rfl rfl (c_X7_leastBeside hq hR46) (cwV 2 X.1.2.2.2.2 (sf_gV tw_798 tw_800 tw_28 tw_48 tw_801) rfl rfl rfl ⟨rfl, hd_X7_leastBeside⟩ ⟨Nat.le_of_ble_eq_true rfl, Nat.le_of_ble_eq_true rfl⟩) rfl rfl (Nat.le_of_ble_eq_true rfl) dX7_hingeSense_116 rfl ?_
              obtain ⟨r51, τ50, hR49, h⟩ := h
              refine sf_callVi (As := [.int y12, .int y37, .int r48]) (rest := []) (cv := (RX7, TX7, 23)) X rfl rfl (c_X7_side hq hR49) (cwV 3 X.1.2.2.2.2 (sf_gV tw_794 tw_796 tw_27 tw_48 tw_797) rfl rfl rfl ⟨rfl, hd_X7_side⟩ ⟨Nat.le_of_ble_eq_true rfl, Nat.le_of_ble_eq_true rfl⟩) rfl rfl (Nat.le_of_ble_eq_true rfl) dX7_hingeSense_119 rfl ?_
              refine sf_aload_n (i := 0) (j := 3) X dX7_hingeSense_122 rfl rfl rfl ?_
              refine sf_iload_n (i := 3) (j := 1) X dX7_hingeSense_123 rfl rfl rfl ?_
              refine sf_iload (i := 4) (j := 0) X dX7_hingeSense_124 rfl rfl ?_
              refine sf_aload_n (i := 0) (j := 3) X dX7_hingeSense_126 rfl rfl rfl ?_
              refine sf_iload (i := 4) (j := 0) X dX7_hingeSense_127 rfl rfl ?_
              refine sf_iload_n (i := 3) (j := 1) X dX7_hingeSense_129 rfl rfl rfl ?_
              obtain ⟨r54, τ53, hR52, h⟩ := h
              refine sf_callVi (As := [.int y37, .int y12]) (rest := [.int y37, .int y12, .ref (q 0), .int r51]) (cv := (RX7, TX7, 23)) X rfl rfl (c_X7_leastBeside hq hR52) (cwV 2 X.1.2.2.2.2 (sf_gV tw_798 tw_800 tw_28 tw_48 tw_801) rfl rfl rfl ⟨rfl, hd_X7_leastBeside⟩ ⟨Nat.le_of_ble_eq_true rfl, Nat.le_of_ble_eq_true rfl⟩) rfl rfl (Nat.le_of_ble_eq_true rfl) dX7_hingeSense_130 rfl ?_
              obtain ⟨r57, τ56, hR55, h⟩ := h
              refine sf_callVi (As := [.int y12, .int y37, .int r54]) (rest := [.int r51]) (cv := (RX7, TX7, 23)) X rfl rfl (c_X7_side hq hR55) (cwV 3 X.1.2.2.2.2 (sf_gV tw_794 tw_796 tw_27 tw_48 tw_797) rfl rfl rfl ⟨rfl, hd_X7_side⟩ ⟨Nat.le_of_ble_eq_true rfl, Nat.le_of_ble_eq_true rfl⟩) rfl rfl (Nat.le_of_ble_eq_true rfl) dX7_hingeSense_133 rfl ?_
              refine sf_imul X dX7_hingeSense_136 rfl ?_
              refine sf_goto (tgt := 141) X dX7_hingeSense_137 rfl ?_
              exact sf_reti X h dX7_hingeSense_141
      · have h := sf_iff c10 h
        refine sf_aload_n (i := 0) (j := 1) X dX7_hingeSense_45 rfl rfl rfl ?_
        refine sf_getR (C := RX7) (T := TX7) (N := 23) (ci := 7) (j := 6) (k' := 5) X (fun w h => sf_memc (inX7 w h)) rfl rfl (by decide) (X.1.2.2.2.2 _ (sf_memc tw_637)) (fun _ h9 => h9) rfl dX7_hingeSense_46 rfl ?_
        refine sf_iload_n (i := 1) (j := 2) X dX7_hingeSense_49 rfl rfl rfl ?_
        obtain ⟨b58, h⟩ := h
        refine sf_iald X rfl b58 dX7_hingeSense_50 rfl ?_
        refine sf_goto (tgt := 60) X dX7_hingeSense_51 rfl ?_
        refine sf_top (fun y59 hy59 => ?_)
        have h := h y59 hy59
        refine sf_istore_n (i := 3) (lv' := [(3, .int y59), (2, .int (0 : Int32)), (0, .ref (q 0)), (1, .int u0)]) X dX7_hingeSense_60 rfl (by decide) rfl rfl ?_
        refine sf_iload_n (i := 2) (j := 1) X dX7_hingeSense_61 rfl rfl rfl ?_
        refine sf_if_eq (tgt := 74) X dX7_hingeSense_62 rfl rfl (fun c60 => ?_) (fun c60 => ?_)
        · have h := sf_ift c60 h
          refine sf_aload_n (i := 0) (j := 2) X dX7_hingeSense_74 rfl rfl rfl ?_
          refine sf_getR (C := RX7) (T := TX7) (N := 23) (ci := 7) (j := 6) (k' := 5) X (fun w h => sf_memc (inX7 w h)) rfl rfl (by decide) (X.1.2.2.2.2 _ (sf_memc tw_637)) (fun _ h9 => h9) rfl dX7_hingeSense_75 rfl ?_
          refine sf_iload_n (i := 1) (j := 3) X dX7_hingeSense_78 rfl rfl rfl ?_
          obtain ⟨b61, h⟩ := h
          refine sf_iald X rfl b61 dX7_hingeSense_79 rfl ?_
          refine sf_top (fun y62 hy62 => ?_)
          have h := h y62 hy62
          refine sf_istore (i := 4) (lv' := [(4, .int y62), (3, .int y59), (2, .int (0 : Int32)), (0, .ref (q 0)), (1, .int u0)]) X dX7_hingeSense_80 (by decide) rfl rfl ?_
          refine sf_aload_n (i := 0) (j := 3) X dX7_hingeSense_82 rfl rfl rfl ?_
          refine sf_iload_n (i := 3) (j := 1) X dX7_hingeSense_83 rfl rfl rfl ?_
          refine sf_iload (i := 4) (j := 0) X dX7_hingeSense_84 rfl rfl ?_
          refine sf_iload_n (i := 3) (j := 1) X dX7_hingeSense_86 rfl rfl rfl ?_
          refine sf_iload (i := 4) (j := 0) X dX7_hingeSense_87 rfl rfl ?_
          obtain ⟨r65, τ64, hR63, h⟩ := h
          refine sf_callVi (As := [.int y59, .int y62, .int y59, .int y62]) (rest := []) (cv := (RX7, TX7, 23)) X rfl rfl (c_X7_isClear hq hR63) (cwV 4 X.1.2.2.2.2 (sf_gV tw_790 tw_792 tw_26 tw_48 tw_793) rfl rfl rfl ⟨rfl, hd_X7_isClear⟩ ⟨Nat.le_of_ble_eq_true rfl, Nat.le_of_ble_eq_true rfl⟩) rfl rfl (Nat.le_of_ble_eq_true rfl) dX7_hingeSense_89 rfl ?_
          refine sf_if_eq (tgt := 140) X dX7_hingeSense_92 rfl rfl (fun c66 => ?_) (fun c66 => ?_)
          · have h := sf_ift c66 h
            refine sf_iconst (v := 0) X dX7_hingeSense_140 sf_ic_0 rfl ?_
            exact sf_reti X h dX7_hingeSense_141
          · have h := sf_iff c66 h
            refine sf_aload_n (i := 0) (j := 3) X dX7_hingeSense_95 rfl rfl rfl ?_
            refine sf_iload_n (i := 3) (j := 1) X dX7_hingeSense_96 rfl rfl rfl ?_
            refine sf_iload (i := 4) (j := 0) X dX7_hingeSense_97 rfl rfl ?_
            refine sf_iload (i := 4) (j := 0) X dX7_hingeSense_99 rfl rfl ?_
            refine sf_iload_n (i := 3) (j := 1) X dX7_hingeSense_101 rfl rfl rfl ?_
            obtain ⟨r69, τ68, hR67, h⟩ := h
            refine sf_callVi (As := [.int y59, .int y62, .int y62, .int y59]) (rest := []) (cv := (RX7, TX7, 23)) X rfl rfl (c_X7_isClear hq hR67) (cwV 4 X.1.2.2.2.2 (sf_gV tw_790 tw_792 tw_26 tw_48 tw_793) rfl rfl rfl ⟨rfl, hd_X7_isClear⟩ ⟨Nat.le_of_ble_eq_true rfl, Nat.le_of_ble_eq_true rfl⟩) rfl rfl (Nat.le_of_ble_eq_true rfl) dX7_hingeSense_102 rfl ?_
            refine sf_if_eq (tgt := 140) X dX7_hingeSense_105 rfl rfl (fun c70 => ?_) (fun c70 => ?_)
            · have h := sf_ift c70 h
              refine sf_iconst (v := 0) X dX7_hingeSense_140 sf_ic_0 rfl ?_
              exact sf_reti X h dX7_hingeSense_141
            · have h := sf_iff c70 h
              refine sf_aload_n (i := 0) (j := 3) X dX7_hingeSense_108 rfl rfl rfl ?_
              refine sf_iload_n (i := 3) (j := 1) X dX7_hingeSense_109 rfl rfl rfl ?_
              refine sf_iload (i := 4) (j := 0) X dX7_hingeSense_110 rfl rfl ?_
              refine sf_aload_n (i := 0) (j := 3) X dX7_hingeSense_112 rfl rfl rfl ?_
              refine sf_iload_n (i := 3) (j := 1) X dX7_hingeSense_113 rfl rfl rfl ?_
              refine sf_iload (i := 4) (j := 0) X dX7_hingeSense_114 rfl rfl ?_
              obtain ⟨r73, τ72, hR71, h⟩ := h
              refine sf_callVi (As := [.int y59, .int y62]) (rest := [.int y62, .int y59, .ref (q 0)]) (cv := (RX7, TX7, 23)) X rfl rfl (c_X7_leastBeside hq hR71) (cwV 2 X.1.2.2.2.2 (sf_gV tw_798 tw_800 tw_28 tw_48 tw_801) rfl rfl rfl ⟨rfl, hd_X7_leastBeside⟩ ⟨Nat.le_of_ble_eq_true rfl, Nat.le_of_ble_eq_true rfl⟩) rfl rfl (Nat.le_of_ble_eq_true rfl) dX7_hingeSense_116 rfl ?_
              obtain ⟨r76, τ75, hR74, h⟩ := h
              refine sf_callVi (As := [.int y59, .int y62, .int r73]) (rest := []) (cv := (RX7, TX7, 23)) X rfl rfl (c_X7_side hq hR74) (cwV 3 X.1.2.2.2.2 (sf_gV tw_794 tw_796 tw_27 tw_48 tw_797) rfl rfl rfl ⟨rfl, hd_X7_side⟩ ⟨Nat.le_of_ble_eq_true rfl, Nat.le_of_ble_eq_true rfl⟩) rfl rfl (Nat.le_of_ble_eq_true rfl) dX7_hingeSense_119 rfl ?_
              refine sf_aload_n (i := 0) (j := 3) X dX7_hingeSense_122 rfl rfl rfl ?_
              refine sf_iload_n (i := 3) (j := 1) X dX7_hingeSense_123 rfl rfl rfl ?_
              refine sf_iload (i := 4) (j := 0) X dX7_hingeSense_124 rfl rfl ?_
              refine sf_aload_n (i := 0) (j := 3) X dX7_hingeSense_126 rfl rfl rfl ?_
              refine sf_iload (i := 4) (j := 0) X dX7_hingeSense_127 rfl rfl ?_
              refine sf_iload_n (i := 3) (j := 1) X dX7_hingeSense_129 rfl rfl rfl ?_
              obtain ⟨r79, τ78, hR77, h⟩ := h
              refine sf_callVi (As := [.int y62, .int y59]) (rest := [.int y62, .int y59, .ref (q 0), .int r76]) (cv := (RX7, TX7, 23)) X rfl rfl (c_X7_leastBeside hq hR77) (cwV 2 X.1.2.2.2.2 (sf_gV tw_798 tw_800 tw_28 tw_48 tw_801) rfl rfl rfl ⟨rfl, hd_X7_leastBeside⟩ ⟨Nat.le_of_ble_eq_true rfl, Nat.le_of_ble_eq_true rfl⟩) rfl rfl (Nat.le_of_ble_eq_true rfl) dX7_hingeSense_130 rfl ?_
              obtain ⟨r82, τ81, hR80, h⟩ := h
              refine sf_callVi (As := [.int y59, .int y62, .int r79]) (rest := [.int r76]) (cv := (RX7, TX7, 23)) X rfl rfl (c_X7_side hq hR80) (cwV 3 X.1.2.2.2.2 (sf_gV tw_794 tw_796 tw_27 tw_48 tw_797) rfl rfl rfl ⟨rfl, hd_X7_side⟩ ⟨Nat.le_of_ble_eq_true rfl, Nat.le_of_ble_eq_true rfl⟩) rfl rfl (Nat.le_of_ble_eq_true rfl) dX7_hingeSense_133 rfl ?_
              refine sf_imul X dX7_hingeSense_136 rfl ?_
              refine sf_goto (tgt := 141) X dX7_hingeSense_137 rfl ?_
              exact sf_reti X h dX7_hingeSense_141
        · have h := sf_iff c60 h
          refine sf_aload_n (i := 0) (j := 2) X dX7_hingeSense_65 rfl rfl rfl ?_
          refine sf_getR (C := RX7) (T := TX7) (N := 23) (ci := 7) (j := 5) (k' := 4) X (fun w h => sf_memc (inX7 w h)) rfl rfl (by decide) (X.1.2.2.2.2 _ (sf_memc tw_636)) (fun _ h9 => h9) rfl dX7_hingeSense_66 rfl ?_
          refine sf_iload_n (i := 1) (j := 3) X dX7_hingeSense_69 rfl rfl rfl ?_
          obtain ⟨b83, h⟩ := h
          refine sf_iald X rfl b83 dX7_hingeSense_70 rfl ?_
          refine sf_goto (tgt := 80) X dX7_hingeSense_71 rfl ?_
          refine sf_top (fun y84 hy84 => ?_)
          have h := h y84 hy84
          refine sf_istore (i := 4) (lv' := [(4, .int y84), (3, .int y59), (2, .int (0 : Int32)), (0, .ref (q 0)), (1, .int u0)]) X dX7_hingeSense_80 (by decide) rfl rfl ?_
          refine sf_aload_n (i := 0) (j := 3) X dX7_hingeSense_82 rfl rfl rfl ?_
          refine sf_iload_n (i := 3) (j := 1) X dX7_hingeSense_83 rfl rfl rfl ?_
          refine sf_iload (i := 4) (j := 0) X dX7_hingeSense_84 rfl rfl ?_
          refine sf_iload_n (i := 3) (j := 1) X dX7_hingeSense_86 rfl rfl rfl ?_
          refine sf_iload (i := 4) (j := 0) X dX7_hingeSense_87 rfl rfl ?_
          obtain ⟨r87, τ86, hR85, h⟩ := h
          refine sf_callVi (As := [.int y59, .int y84, .int y59, .int y84]) (rest := []) (cv := (RX7, TX7, 23)) X rfl rfl (c_X7_isClear hq hR85) (cwV 4 X.1.2.2.2.2 (sf_gV tw_790 tw_792 tw_26 tw_48 tw_793) rfl rfl rfl ⟨rfl, hd_X7_isClear⟩ ⟨Nat.le_of_ble_eq_true rfl, Nat.le_of_ble_eq_true rfl⟩) rfl rfl (Nat.le_of_ble_eq_true rfl) dX7_hingeSense_89 rfl ?_
          refine sf_if_eq (tgt := 140) X dX7_hingeSense_92 rfl rfl (fun c88 => ?_) (fun c88 => ?_)
          · have h := sf_ift c88 h
            refine sf_iconst (v := 0) X dX7_hingeSense_140 sf_ic_0 rfl ?_
            exact sf_reti X h dX7_hingeSense_141
          · have h := sf_iff c88 h
            refine sf_aload_n (i := 0) (j := 3) X dX7_hingeSense_95 rfl rfl rfl ?_
            refine sf_iload_n (i := 3) (j := 1) X dX7_hingeSense_96 rfl rfl rfl ?_
            refine sf_iload (i := 4) (j := 0) X dX7_hingeSense_97 rfl rfl ?_
            refine sf_iload (i := 4) (j := 0) X dX7_hingeSense_99 rfl rfl ?_
            refine sf_iload_n (i := 3) (j := 1) X dX7_hingeSense_101 rfl rfl rfl ?_
            obtain ⟨r91, τ90, hR89, h⟩ := h
            refine sf_callVi (As := [.int y59, .int y84, .int y84, .int y59]) (rest := []) (cv := (RX7, TX7, 23)) X rfl rfl (c_X7_isClear hq hR89) (cwV 4 X.1.2.2.2.2 (sf_gV tw_790 tw_792 tw_26 tw_48 tw_793) rfl rfl rfl ⟨rfl, hd_X7_isClear⟩ ⟨Nat.le_of_ble_eq_true rfl, Nat.le_of_ble_eq_true rfl⟩) rfl rfl (Nat.le_of_ble_eq_true rfl) dX7_hingeSense_102 rfl ?_
            refine sf_if_eq (tgt := 140) X dX7_hingeSense_105 rfl rfl (fun c92 => ?_) (fun c92 => ?_)
            · have h := sf_ift c92 h
              refine sf_iconst (v := 0) X dX7_hingeSense_140 sf_ic_0 rfl ?_
              exact sf_reti X h dX7_hingeSense_141
            · have h := sf_iff c92 h
              refine sf_aload_n (i := 0) (j := 3) X dX7_hingeSense_108 rfl rfl rfl ?_
              refine sf_iload_n (i := 3) (j := 1) X dX7_hingeSense_109 rfl rfl rfl ?_
              refine sf_iload (i := 4) (j := 0) X dX7_hingeSense_110 rfl rfl ?_
              refine sf_aload_n (i := 0) (j := 3) X dX7_hingeSense_112 rfl rfl rfl ?_
              refine sf_iload_n (i := 3) (j := 1) X dX7_hingeSense_113 rfl rfl rfl ?_
              refine sf_iload (i := 4) (j := 0) X dX7_hingeSense_114 rfl rfl ?_
              obtain ⟨r95, τ94, hR93, h⟩ := h
              refine sf_callVi (As := [.int y59, .int y84]) (rest := [.int y84, .int y59, .ref (q 0)]) (cv := (RX7, TX7, 23)) X rfl rfl (c_X7_leastBeside hq hR93) (cwV 2 X.1.2.2.2.2 (sf_gV tw_798 tw_800 tw_28 tw_48 tw_801) rfl rfl rfl ⟨rfl, hd_X7_leastBeside⟩ ⟨Nat.le_of_ble_eq_true rfl, Nat.le_of_ble_eq_true rfl⟩) rfl rfl (Nat.le_of_ble_eq_true rfl) dX7_hingeSense_116 rfl ?_
              obtain ⟨r98, τ97, hR96, h⟩ := h
              refine sf_callVi (As := [.int y59, .int y84, .int r95]) (rest := []) (cv := (RX7, TX7, 23)) X rfl rfl (c_X7_side hq hR96) (cwV 3 X.1.2.2.2.2 (sf_gV tw_794 tw_796 tw_27 tw_48 tw_797) rfl rfl rfl ⟨rfl, hd_X7_side⟩ ⟨Nat.le_of_ble_eq_true rfl, Nat.le_of_ble_eq_true rfl⟩) rfl rfl (Nat.le_of_ble_eq_true rfl) dX7_hingeSense_119 rfl ?_
              refine sf_aload_n (i := 0) (j := 3) X dX7_hingeSense_122 rfl rfl rfl ?_
              refine sf_iload_n (i := 3) (j := 1) X dX7_hingeSense_123 rfl rfl rfl ?_
              refine sf_iload (i := 4) (j := 0) X dX7_hingeSense_124 rfl rfl ?_
              refine sf_aload_n (i := 0) (j := 3) X dX7_hingeSense_126 rfl rfl rfl ?_
              refine sf_iload (i := 4) (j := 0) X dX7_hingeSense_127 rfl rfl ?_
              refine sf_iload_n (i := 3) (j := 1) X dX7_hingeSense_129 rfl rfl rfl ?_
              obtain ⟨r101, τ100, hR99, h⟩ := h
              refine sf_callVi (As := [.int y84, .int y59]) (rest := [.int y84, .int y59, .ref (q 0), .int r98]) (cv := (RX7, TX7, 23)) X rfl rfl (c_X7_leastBeside hq hR99) (cwV 2 X.1.2.2.2.2 (sf_gV tw_798 tw_800 tw_28 tw_48 tw_801) rfl rfl rfl ⟨rfl, hd_X7_leastBeside⟩ ⟨Nat.le_of_ble_eq_true rfl, Nat.le_of_ble_eq_true rfl⟩) rfl rfl (Nat.le_of_ble_eq_true rfl) dX7_hingeSense_130 rfl ?_
              obtain ⟨r104, τ103, hR102, h⟩ := h
              refine sf_callVi (As := [.int y59, .int y84, .int r101]) (rest := [.int r98]) (cv := (RX7, TX7, 23)) X rfl rfl (c_X7_side hq hR102) (cwV 3 X.1.2.2.2.2 (sf_gV tw_794 tw_796 tw_27 tw_48 tw_797) rfl rfl rfl ⟨rfl, hd_X7_side⟩ ⟨Nat.le_of_ble_eq_true rfl, Nat.le_of_ble_eq_true rfl⟩) rfl rfl (Nat.le_of_ble_eq_true rfl) dX7_hingeSense_133 rfl ?_
              refine sf_imul X dX7_hingeSense_136 rfl ?_
              refine sf_goto (tgt := 141) X dX7_hingeSense_137 rfl ?_
              exact sf_reti X h dX7_hingeSense_141
    · have h := sf_iff c9 h
      refine sf_iconst (v := 1) X dX7_hingeSense_35 sf_ic_1 rfl ?_
      refine sf_goto (tgt := 40) X dX7_hingeSense_36 rfl ?_
      refine sf_istore_n (i := 2) (lv' := [(2, .int (1 : Int32)), (0, .ref (q 0)), (1, .int u0)]) X dX7_hingeSense_40 rfl (by decide) rfl rfl ?_
      refine sf_iload_n (i := 2) (j := 0) X dX7_hingeSense_41 rfl rfl rfl ?_
      refine sf_if_eq (tgt := 54) X dX7_hingeSense_42 rfl rfl (fun c105 => ?_) (fun c105 => ?_)
      · have h := sf_ift c105 h
        refine sf_aload_n (i := 0) (j := 1) X dX7_hingeSense_54 rfl rfl rfl ?_
        refine sf_getR (C := RX7) (T := TX7) (N := 23) (ci := 7) (j := 5) (k' := 4) X (fun w h => sf_memc (inX7 w h)) rfl rfl (by decide) (X.1.2.2.2.2 _ (sf_memc tw_636)) (fun _ h9 => h9) rfl dX7_hingeSense_55 rfl ?_
        refine sf_iload_n (i := 1) (j := 2) X dX7_hingeSense_58 rfl rfl rfl ?_
        obtain ⟨b106, h⟩ := h
        refine sf_iald X rfl b106 dX7_hingeSense_59 rfl ?_
        refine sf_top (fun y107 hy107 => ?_)
        have h := h y107 hy107
        refine sf_istore_n (i := 3) (lv' := [(3, .int y107), (2, .int (1 : Int32)), (0, .ref (q 0)), (1, .int u0)]) X dX7_hingeSense_60 rfl (by decide) rfl rfl ?_
        refine sf_iload_n (i := 2) (j := 1) X dX7_hingeSense_61 rfl rfl rfl ?_
        refine sf_if_eq (tgt := 74) X dX7_hingeSense_62 rfl rfl (fun c108 => ?_) (fun c108 => ?_)
        · have h := sf_ift c108 h
          refine sf_aload_n (i := 0) (j := 2) X dX7_hingeSense_74 rfl rfl rfl ?_
          refine sf_getR (C := RX7) (T := TX7) (N := 23) (ci := 7) (j := 6) (k' := 5) X (fun w h => sf_memc (inX7 w h)) rfl rfl (by decide) (X.1.2.2.2.2 _ (sf_memc tw_637)) (fun _ h9 => h9) rfl dX7_hingeSense_75 rfl ?_
          refine sf_iload_n (i := 1) (j := 3) X dX7_hingeSense_78 rfl rfl rfl ?_
          obtain ⟨b109, h⟩ := h
          refine sf_iald X rfl b109 dX7_hingeSense_79 rfl ?_
          refine sf_top (fun y110 hy110 => ?_)
          have h := h y110 hy110
          refine sf_istore (i := 4) (lv' := [(4, .int y110), (3, .int y107), (2, .int (1 : Int32)), (0, .ref (q 0)), (1, .int u0)]) X dX7_hingeSense_80 (by decide) rfl rfl ?_
          refine sf_aload_n (i := 0) (j := 3) X dX7_hingeSense_82 rfl rfl rfl ?_
          refine sf_iload_n (i := 3) (j := 1) X dX7_hingeSense_83 rfl rfl rfl ?_
          refine sf_iload (i := 4) (j := 0) X dX7_hingeSense_84 rfl rfl ?_
          refine sf_iload_n (i := 3) (j := 1) X dX7_hingeSense_86 rfl rfl rfl ?_
          refine sf_iload (i := 4) (j := 0) X dX7_hingeSense_87 rfl rfl ?_
          obtain ⟨r113, τ112, hR111, h⟩ := h
          refine sf_callVi (As := [.int y107, .int y110, .int y107, .int y110]) (rest := []) (cv := (RX7, TX7, 23)) X rfl rfl (c_X7_isClear hq hR111) (cwV 4 X.1.2.2.2.2 (sf_gV tw_790 tw_792 tw_26 tw_48 tw_793) rfl rfl rfl ⟨rfl, hd_X7_isClear⟩ ⟨Nat.le_of_ble_eq_true rfl, Nat.le_of_ble_eq_true rfl⟩) rfl rfl (Nat.le_of_ble_eq_true rfl) dX7_hingeSense_89 rfl ?_
          refine sf_if_eq (tgt := 140) X dX7_hingeSense_92 rfl rfl (fun c114 => ?_) (fun c114 => ?_)
          · have h := sf_ift c114 h
            refine sf_iconst (v := 0) X dX7_hingeSense_140 sf_ic_0 rfl ?_
            exact sf_reti X h dX7_hingeSense_141
          · have h := sf_iff c114 h
            refine sf_aload_n (i := 0) (j := 3) X dX7_hingeSense_95 rfl rfl rfl ?_
            refine sf_iload_n (i := 3) (j := 1) X dX7_hingeSense_96 rfl rfl rfl ?_
            refine sf_iload (i := 4) (j := 0) X dX7_hingeSense_97 rfl rfl ?_
            refine sf_iload (i := 4) (j := 0) X dX7_hingeSense_99 rfl rfl ?_
            refine sf_iload_n (i := 3) (j := 1) X dX7_hingeSense_101 rfl rfl rfl ?_
            obtain ⟨r117, τ116, hR115, h⟩ := h
            refine sf_callVi (As := [.int y107, .int y110, .int y110, .int y107]) (rest := []) (cv := (RX7, TX7, 23)) X rfl rfl (c_X7_isClear hq hR115) (cwV 4 X.1.2.2.2.2 (sf_gV tw_790 tw_792 tw_26 tw_48 tw_793) rfl rfl rfl ⟨rfl, hd_X7_isClear⟩ ⟨Nat.le_of_ble_eq_true rfl, Nat.le_of_ble_eq_true rfl⟩) rfl rfl (Nat.le_of_ble_eq_true rfl) dX7_hingeSense_102 rfl ?_
            refine sf_if_eq (tgt := 140) X dX7_hingeSense_105 rfl rfl (fun c118 => ?_) (fun c118 => ?_)
            · have h := sf_ift c118 h
              refine sf_iconst (v := 0) X dX7_hingeSense_140 sf_ic_0 rfl ?_
              exact sf_reti X h dX7_hingeSense_141
            · have h := sf_iff c118 h
              refine sf_aload_n (i := 0) (j := 3) X dX7_hingeSense_108 rfl rfl rfl ?_
              refine sf_iload_n (i := 3) (j := 1) X dX7_hingeSense_109 rfl rfl rfl ?_
              refine sf_iload (i := 4) (j := 0) X dX7_hingeSense_110 rfl rfl ?_
              refine sf_aload_n (i := 0) (j := 3) X dX7_hingeSense_112 rfl rfl rfl ?_
              refine sf_iload_n (i := 3) (j := 1) X dX7_hingeSense_113 rfl rfl rfl ?_
              refine sf_iload (i := 4) (j := 0) X dX7_hingeSense_114 rfl rfl ?_
              obtain ⟨r121, τ120, hR119, h⟩ := h
              refine sf_callVi (As := [.int y107, .int y110]) (rest := [.int y110, .int y107, .ref (q 0)]) (cv := (RX7, TX7, 23)) X rfl rfl (c_X7_leastBeside hq hR119) (cwV 2 X.1.2.2.2.2 (sf_gV tw_798 tw_800 tw_28 tw_48 tw_801) rfl rfl rfl ⟨rfl, hd_X7_leastBeside⟩ ⟨Nat.le_of_ble_eq_true rfl, Nat.le_of_ble_eq_true rfl⟩) rfl rfl (Nat.le_of_ble_eq_true rfl) dX7_hingeSense_116 rfl ?_
              obtain ⟨r124, τ123, hR122, h⟩ := h
              refine sf_callVi (As := [.int y107, .int y110, .int r121]) (rest := []) (cv := (RX7, TX7, 23)) X rfl rfl (c_X7_side hq hR122) (cwV 3 X.1.2.2.2.2 (sf_gV tw_794 tw_796 tw_27 tw_48 tw_797) rfl rfl rfl ⟨rfl, hd_X7_side⟩ ⟨Nat.le_of_ble_eq_true rfl, Nat.le_of_ble_eq_true rfl⟩) rfl rfl (Nat.le_of_ble_eq_true rfl) dX7_hingeSense_119 rfl ?_
              refine sf_aload_n (i := 0) (j := 3) X dX7_hingeSense_122 rfl rfl rfl ?_
              refine sf_iload_n (i := 3) (j := 1) X dX7_hingeSense_123 rfl rfl rfl ?_
              refine sf_iload (i := 4) (j := 0) X dX7_hingeSense_124 rfl rfl ?_
              refine sf_aload_n (i := 0) (j := 3) X dX7_hingeSense_126 rfl rfl rfl ?_
              refine sf_iload (i := 4) (j := 0) X dX7_hingeSense_127 rfl rfl ?_
              refine sf_iload_n (i := 3) (j := 1) X dX7_hingeSense_129 rfl rfl rfl ?_
              obtain ⟨r127, τ126, hR125, h⟩ := h
              refine sf_callVi (As := [.int y110, .int y107]) (rest := [.int y110, .int y107, .ref (q 0), .int r124]) (cv := (RX7, TX7, 23)) X rfl rfl (c_X7_leastBeside hq hR125) (cwV 2 X.1.2.2.2.2 (sf_gV tw_798 tw_800 tw_28 tw_48 tw_801) rfl rfl rfl ⟨rfl, hd_X7_leastBeside⟩ ⟨Nat.le_of_ble_eq_true rfl, Nat.le_of_ble_eq_true rfl⟩) rfl rfl (Nat.le_of_ble_eq_true rfl) dX7_hingeSense_130 rfl ?_
              obtain ⟨r130, τ129, hR128, h⟩ := h
              refine sf_callVi (As := [.int y107, .int y110, .int r127]) (rest := [.int r124]) (cv := (RX7, TX7, 23)) X rfl rfl (c_X7_side hq hR128) (cwV 3 X.1.2.2.2.2 (sf_gV tw_794 tw_796 tw_27 tw_48 tw_797) rfl rfl rfl ⟨rfl, hd_X7_side⟩ ⟨Nat.le_of_ble_eq_true rfl, Nat.le_of_ble_eq_true rfl⟩) rfl rfl (Nat.le_of_ble_eq_true rfl) dX7_hingeSense_133 rfl ?_
              refine sf_imul X dX7_hingeSense_136 rfl ?_
              refine sf_goto (tgt := 141) X dX7_hingeSense_137 rfl ?_
              exact sf_reti X h dX7_hingeSense_141
        · have h := sf_iff c108 h
          refine sf_aload_n (i := 0) (j := 2) X dX7_hingeSense_65 rfl rfl rfl ?_
          refine sf_getR (C := RX7) (T := TX7) (N := 23) (ci := 7) (j := 5) (k' := 4) X (fun w h => sf_memc (inX7 w h)) rfl rfl (by decide) (X.1.2.2.2.2 _ (sf_memc tw_636)) (fun _ h9 => h9) rfl dX7_hingeSense_66 rfl ?_
          refine sf_iload_n (i := 1) (j := 3) X dX7_hingeSense_69 rfl rfl rfl ?_
          obtain ⟨b131, h⟩ := h
          refine sf_iald X rfl b131 dX7_hingeSense_70 rfl ?_
          refine sf_goto (tgt := 80) X dX7_hingeSense_71 rfl ?_
          refine sf_top (fun y132 hy132 => ?_)
          have h := h y132 hy132
          refine sf_istore (i := 4) (lv' := [(4, .int y132), (3, .int y107), (2, .int (1 : Int32)), (0, .ref (q 0)), (1, .int u0)]) X dX7_hingeSense_80 (by decide) rfl rfl ?_
          refine sf_aload_n (i := 0) (j := 3) X dX7_hingeSense_82 rfl rfl rfl ?_
          refine sf_iload_n (i := 3) (j := 1) X dX7_hingeSense_83 rfl rfl rfl ?_
          refine sf_iload (i := 4) (j := 0) X dX7_hingeSense_84 rfl rfl ?_
          refine sf_iload_n (i := 3) (j := 1) X dX7_hingeSense_86 rfl rfl rfl ?_
          refine sf_iload (i := 4) (j := 0) X dX7_hingeSense_87 rfl rfl ?_
          obtain ⟨r135, τ134, hR133, h⟩ := h
          refine sf_callVi (As := [.int y107, .int y132, .int y107, .int y132]) (rest := []) (cv := (RX7, TX7, 23)) X rfl rfl (c_X7_isClear hq hR133) (cwV 4 X.1.2.2.2.2 (sf_gV tw_790 tw_792 tw_26 tw_48 tw_793) rfl rfl rfl ⟨rfl, hd_X7_isClear⟩ ⟨Nat.le_of_ble_eq_true rfl, Nat.le_of_ble_eq_true rfl⟩) rfl rfl (Nat.le_of_ble_eq_true rfl) dX7_hingeSense_89 rfl ?_
          refine sf_if_eq (tgt := 140) X dX7_hingeSense_92 rfl rfl (fun c136 => ?_) (fun c136 => ?_)
          · have h := sf_ift c136 h
            refine sf_iconst (v := 0) X dX7_hingeSense_140 sf_ic_0 rfl ?_
            exact sf_reti X h dX7_hingeSense_141
          · have h := sf_iff c136 h
            refine sf_aload_n (i := 0) (j := 3) X dX7_hingeSense_95 rfl rfl rfl ?_
            refine sf_iload_n (i := 3) (j := 1) X dX7_hingeSense_96 rfl rfl rfl ?_
            refine sf_iload (i := 4) (j := 0) X dX7_hingeSense_97 rfl rfl ?_
            refine sf_iload (i := 4) (j := 0) X dX7_hingeSense_99 rfl rfl ?_
            refine sf_iload_n (i := 3) (j := 1) X dX7_hingeSense_101 rfl rfl rfl ?_
            obtain ⟨r139, τ138, hR137, h⟩ := h
            refine sf_callVi (As := [.int y107, .int y132, .int y132, .int y107]) (rest := []) (cv := (RX7, TX7, 23)) X rfl rfl (c_X7_isClear hq hR137) (cwV 4 X.1.2.2.2.2 (sf_gV tw_790 tw_792 tw_26 tw_48 tw_793) rfl rfl rfl ⟨rfl, hd_X7_isClear⟩ ⟨Nat.le_of_ble_eq_true rfl, Nat.le_of_ble_eq_true rfl⟩) rfl rfl (Nat.le_of_ble_eq_true rfl) dX7_hingeSense_102 rfl ?_
            refine sf_if_eq (tgt := 140) X dX7_hingeSense_105 rfl rfl (fun c140 => ?_) (fun c140 => ?_)
            · have h := sf_ift c140 h
              refine sf_iconst (v := 0) X dX7_hingeSense_140 sf_ic_0 rfl ?_
              exact sf_reti X h dX7_hingeSense_141
            · have h := sf_iff c140 h
              refine sf_aload_n (i := 0) (j := 3) X dX7_hingeSense_108 rfl rfl rfl ?_
              refine sf_iload_n (i := 3) (j := 1) X dX7_hingeSense_109 rfl rfl rfl ?_
              refine sf_iload (i := 4) (j := 0) X dX7_hingeSense_110 rfl rfl ?_
              refine sf_aload_n (i := 0) (j := 3) X dX7_hingeSense_112 rfl rfl rfl ?_
              refine sf_iload_n (i := 3) (j := 1) X dX7_hingeSense_113 rfl rfl rfl ?_
              refine sf_iload (i := 4) (j := 0) X dX7_hingeSense_114 rfl rfl ?_
              obtain ⟨r143, τ142, hR141, h⟩ := h
              refine sf_callVi (As := [.int y107, .int y132]) (rest := [.int y132, .int y107, .ref (q 0)]) (cv := (RX7, TX7, 23)) X rfl rfl (c_X7_leastBeside hq hR141) (cwV 2 X.1.2.2.2.2 (sf_gV tw_798 tw_800 tw_28 tw_48 tw_801) rfl rfl rfl ⟨rfl, hd_X7_leastBeside⟩ ⟨Nat.le_of_ble_eq_true rfl, Nat.le_of_ble_eq_true rfl⟩) rfl rfl (Nat.le_of_ble_eq_true rfl) dX7_hingeSense_116 rfl ?_
              obtain ⟨r146, τ145, hR144, h⟩ := h
              refine sf_callVi (As := [.int y107, .int y132, .int r143]) (rest := []) (cv := (RX7, TX7, 23)) X rfl rfl (c_X7_side hq hR144) (cwV 3 X.1.2.2.2.2 (sf_gV tw_794 tw_796 tw_27 tw_48 tw_797) rfl rfl rfl ⟨rfl, hd_X7_side⟩ ⟨Nat.le_of_ble_eq_true rfl, Nat.le_of_ble_eq_true rfl⟩) rfl rfl (Nat.le_of_ble_eq_true rfl) dX7_hingeSense_119 rfl ?_
              refine sf_aload_n (i := 0) (j := 3) X dX7_hingeSense_122 rfl rfl rfl ?_
              refine sf_iload_n (i := 3) (j := 1) X dX7_hingeSense_123 rfl rfl rfl ?_
              refine sf_iload (i := 4) (j := 0) X dX7_hingeSense_124 rfl rfl ?_
              refine sf_aload_n (i := 0) (j := 3) X dX7_hingeSense_126 rfl rfl rfl ?_
              refine sf_iload (i := 4) (j := 0) X dX7_hingeSense_127 rfl rfl ?_
              refine sf_iload_n (i := 3) (j := 1) X dX7_hingeSense_129 rfl rfl rfl ?_
              obtain ⟨r149, τ148, hR147, h⟩ := h
              refine sf_callVi (As := [.int y132, .int y107]) (rest := [.int y132, .int y107, .ref (q 0), .int r146]) (cv := (RX7, TX7, 23)) X rfl rfl (c_X7_leastBeside hq hR147) (cwV 2 X.1.2.2.2.2 (sf_gV tw_798 tw_800 tw_28 tw_48 tw_801) rfl rfl rfl ⟨rfl, hd_X7_leastBeside⟩ ⟨Nat.le_of_ble_eq_true rfl, Nat.le_of_ble_eq_true rfl⟩) rfl rfl (Nat.le_of_ble_eq_true rfl) dX7_hingeSense_130 rfl ?_
              obtain ⟨r152, τ151, hR150, h⟩ := h
              refine sf_callVi (As := [.int y107, .int y132, .int r149]) (rest := [.int r146]) (cv := (RX7, TX7, 23)) X rfl rfl (c_X7_side hq hR150) (cwV 3 X.1.2.2.2.2 (sf_gV tw_794 tw_796 tw_27 tw_48 tw_797) rfl rfl rfl ⟨rfl, hd_X7_side⟩ ⟨Nat.le_of_ble_eq_true rfl, Nat.le_of_ble_eq_true rfl⟩) rfl rfl (Nat.le_of_ble_eq_true rfl) dX7_hingeSense_133 rfl ?_
              refine sf_imul X dX7_hingeSense_136 rfl ?_
              refine sf_goto (tgt := 141) X dX7_hingeSense_137 rfl ?_
              exact sf_reti X h dX7_hingeSense_141
      · have h := sf_iff c105 h
        refine sf_aload_n (i := 0) (j := 1) X dX7_hingeSense_45 rfl rfl rfl ?_
        refine sf_getR (C := RX7) (T := TX7) (N := 23) (ci := 7) (j := 6) (k' := 5) X (fun w h => sf_memc (inX7 w h)) rfl rfl (by decide) (X.1.2.2.2.2 _ (sf_memc tw_637)) (fun _ h9 => h9) rfl dX7_hingeSense_46 rfl ?_
        refine sf_iload_n (i := 1) (j := 2) X dX7_hingeSense_49 rfl rfl rfl ?_
        obtain ⟨b153, h⟩ := h
        refine sf_iald X rfl b153 dX7_hingeSense_50 rfl ?_
        refine sf_goto (tgt := 60) X dX7_hingeSense_51 rfl ?_
        refine sf_top (fun y154 hy154 => ?_)
        have h := h y154 hy154
        refine sf_istore_n (i := 3) (lv' := [(3, .int y154), (2, .int (1 : Int32)), (0, .ref (q 0)), (1, .int u0)]) X dX7_hingeSense_60 rfl (by decide) rfl rfl ?_
        refine sf_iload_n (i := 2) (j := 1) X dX7_hingeSense_61 rfl rfl rfl ?_
        refine sf_if_eq (tgt := 74) X dX7_hingeSense_62 rfl rfl (fun c155 => ?_) (fun c155 => ?_)
        · have h := sf_ift c155 h
          refine sf_aload_n (i := 0) (j := 2) X dX7_hingeSense_74 rfl rfl rfl ?_
          refine sf_getR (C := RX7) (T := TX7) (N := 23) (ci := 7) (j := 6) (k' := 5) X (fun w h => sf_memc (inX7 w h)) rfl rfl (by decide) (X.1.2.2.2.2 _ (sf_memc tw_637)) (fun _ h9 => h9) rfl dX7_hingeSense_75 rfl ?_
          refine sf_iload_n (i := 1) (j := 3) X dX7_hingeSense_78 rfl rfl rfl ?_
          obtain ⟨b156, h⟩ := h
          refine sf_iald X rfl b156 dX7_hingeSense_79 rfl ?_
          refine sf_top (fun y157 hy157 => ?_)
          have h := h y157 hy157
          refine sf_istore (i := 4) (lv' := [(4, .int y157), (3, .int y154), (2, .int (1 : Int32)), (0, .ref (q 0)), (1, .int u0)]) X dX7_hingeSense_80 (by decide) rfl rfl ?_
          refine sf_aload_n (i := 0) (j := 3) X dX7_hingeSense_82 rfl rfl rfl ?_
          refine sf_iload_n (i := 3) (j := 1) X dX7_hingeSense_83 rfl rfl rfl ?_
          refine sf_iload (i := 4) (j := 0) X dX7_hingeSense_84 rfl rfl ?_
          refine sf_iload_n (i := 3) (j := 1) X dX7_hingeSense_86 rfl rfl rfl ?_
          refine sf_iload (i := 4) (j := 0) X dX7_hingeSense_87 rfl rfl ?_
          obtain ⟨r160, τ159, hR158, h⟩ := h
          refine sf_callVi (As := [.int y154, .int y157, .int y154, .int y157]) (rest := []) (cv := (RX7, TX7, 23)) X rfl rfl (c_X7_isClear hq hR158) (cwV 4 X.1.2.2.2.2 (sf_gV tw_790 tw_792 tw_26 tw_48 tw_793) rfl rfl rfl ⟨rfl, hd_X7_isClear⟩ ⟨Nat.le_of_ble_eq_true rfl, Nat.le_of_ble_eq_true rfl⟩) rfl rfl (Nat.le_of_ble_eq_true rfl) dX7_hingeSense_89 rfl ?_
          refine sf_if_eq (tgt := 140) X dX7_hingeSense_92 rfl rfl (fun c161 => ?_) (fun c161 => ?_)
          · have h := sf_ift c161 h
            refine sf_iconst (v := 0) X dX7_hingeSense_140 sf_ic_0 rfl ?_
            exact sf_reti X h dX7_hingeSense_141
          · have h := sf_iff c161 h
            refine sf_aload_n (i := 0) (j := 3) X dX7_hingeSense_95 rfl rfl rfl ?_
            refine sf_iload_n (i := 3) (j := 1) X dX7_hingeSense_96 rfl rfl rfl ?_
            refine sf_iload (i := 4) (j := 0) X dX7_hingeSense_97 rfl rfl ?_
            refine sf_iload (i := 4) (j := 0) X dX7_hingeSense_99 rfl rfl ?_
            refine sf_iload_n (i := 3) (j := 1) X dX7_hingeSense_101 rfl rfl rfl ?_
            obtain ⟨r164, τ163, hR162, h⟩ := h
            refine sf_callVi (As := [.int y154, .int y157, .int y157, .int y154]) (rest := []) (cv := (RX7, TX7, 23)) X rfl rfl (c_X7_isClear hq hR162) (cwV 4 X.1.2.2.2.2 (sf_gV tw_790 tw_792 tw_26 tw_48 tw_793) rfl rfl rfl ⟨rfl, hd_X7_isClear⟩ ⟨Nat.le_of_ble_eq_true rfl, Nat.le_of_ble_eq_true rfl⟩) rfl rfl (Nat.le_of_ble_eq_true rfl) dX7_hingeSense_102 rfl ?_
            refine sf_if_eq (tgt := 140) X dX7_hingeSense_105 rfl rfl (fun c165 => ?_) (fun c165 => ?_)
            · have h := sf_ift c165 h
              refine sf_iconst (v := 0) X dX7_hingeSense_140 sf_ic_0 rfl ?_
              exact sf_reti X h dX7_hingeSense_141
            · have h := sf_iff c165 h
              refine sf_aload_n (i := 0) (j := 3) X dX7_hingeSense_108 rfl rfl rfl ?_
              refine sf_iload_n (i := 3) (j := 1) X dX7_hingeSense_109 rfl rfl rfl ?_
              refine sf_iload (i := 4) (j := 0) X dX7_hingeSense_110 rfl rfl ?_
              refine sf_aload_n (i := 0) (j := 3) X dX7_hingeSense_112 rfl rfl rfl ?_
              refine sf_iload_n (i := 3) (j := 1) X dX7_hingeSense_113 rfl rfl rfl ?_
              refine sf_iload (i := 4) (j := 0) X dX7_hingeSense_114 rfl rfl ?_
              obtain ⟨r168, τ167, hR166, h⟩ := h
              refine sf_callVi (As := [.int y154, .int y157]) (rest := [.int y157, .int y154, .ref (q 0)]) (cv := (RX7, TX7, 23)) X rfl rfl (c_X7_leastBeside hq hR166) (cwV 2 X.1.2.2.2.2 (sf_gV tw_798 tw_800 tw_28 tw_48 tw_801) rfl rfl rfl ⟨rfl, hd_X7_leastBeside⟩ ⟨Nat.le_of_ble_eq_true rfl, Nat.le_of_ble_eq_true rfl⟩) rfl rfl (Nat.le_of_ble_eq_true rfl) dX7_hingeSense_116 rfl ?_
              obtain ⟨r171, τ170, hR169, h⟩ := h
              refine sf_callVi (As := [.int y154, .int y157, .int r168]) (rest := []) (cv := (RX7, TX7, 23)) X rfl rfl (c_X7_side hq hR169) (cwV 3 X.1.2.2.2.2 (sf_gV tw_794 tw_796 tw_27 tw_48 tw_797) rfl rfl rfl ⟨rfl, hd_X7_side⟩ ⟨Nat.le_of_ble_eq_true rfl, Nat.le_of_ble_eq_true rfl⟩) rfl rfl (Nat.le_of_ble_eq_true rfl) dX7_hingeSense_119 rfl ?_
              refine sf_aload_n (i := 0) (j := 3) X dX7_hingeSense_122 rfl rfl rfl ?_
              refine sf_iload_n (i := 3) (j := 1) X dX7_hingeSense_123 rfl rfl rfl ?_
              refine sf_iload (i := 4) (j := 0) X dX7_hingeSense_124 rfl rfl ?_
              refine sf_aload_n (i := 0) (j := 3) X dX7_hingeSense_126 rfl rfl rfl ?_
              refine sf_iload (i := 4) (j := 0) X dX7_hingeSense_127 rfl rfl ?_
              refine sf_iload_n (i := 3) (j := 1) X dX7_hingeSense_129 rfl rfl rfl ?_
              obtain ⟨r174, τ173, hR172, h⟩ := h
              refine sf_callVi (As := [.int y157, .int y154]) (rest := [.int y157, .int y154, .ref (q 0), .int r171]) (cv := (RX7, TX7, 23)) X rfl rfl (c_X7_leastBeside hq hR172) (cwV 2 X.1.2.2.2.2 (sf_gV tw_798 tw_800 tw_28 tw_48 tw_801) rfl rfl rfl ⟨rfl, hd_X7_leastBeside⟩ ⟨Nat.le_of_ble_eq_true rfl, Nat.le_of_ble_eq_true rfl⟩) rfl rfl (Nat.le_of_ble_eq_true rfl) dX7_hingeSense_130 rfl ?_
              obtain ⟨r177, τ176, hR175, h⟩ := h
              refine sf_callVi (As := [.int y154, .int y157, .int r174]) (rest := [.int r171]) (cv := (RX7, TX7, 23)) X rfl rfl (c_X7_side hq hR175) (cwV 3 X.1.2.2.2.2 (sf_gV tw_794 tw_796 tw_27 tw_48 tw_797) rfl rfl rfl ⟨rfl, hd_X7_side⟩ ⟨Nat.le_of_ble_eq_true rfl, Nat.le_of_ble_eq_true rfl⟩) rfl rfl (Nat.le_of_ble_eq_true rfl) dX7_hingeSense_133 rfl ?_
              refine sf_imul X dX7_hingeSense_136 rfl ?_
              refine sf_goto (tgt := 141) X dX7_hingeSense_137 rfl ?_
              exact sf_reti X h dX7_hingeSense_141
        · have h := sf_iff c155 h
          refine sf_aload_n (i := 0) (j := 2) X dX7_hingeSense_65 rfl rfl rfl ?_
          refine sf_getR (C := RX7) (T := TX7) (N := 23) (ci := 7) (j := 5) (k' := 4) X (fun w h => sf_memc (inX7 w h)) rfl rfl (by decide) (X.1.2.2.2.2 _ (sf_memc tw_636)) (fun _ h9 => h9) rfl dX7_hingeSense_66 rfl ?_
          refine sf_iload_n (i := 1) (j := 3) X dX7_hingeSense_69 rfl rfl rfl ?_
          obtain ⟨b178, h⟩ := h
          refine sf_iald X rfl b178 dX7_hingeSense_70 rfl ?_
          refine sf_goto (tgt := 80) X dX7_hingeSense_71 rfl ?_
          refine sf_top (fun y179 hy179 => ?_)
          have h := h y179 hy179
          refine sf_istore (i := 4) (lv' := [(4, .int y179), (3, .int y154), (2, .int (1 : Int32)), (0, .ref (q 0)), (1, .int u0)]) X dX7_hingeSense_80 (by decide) rfl rfl ?_
          refine sf_aload_n (i := 0) (j := 3) X dX7_hingeSense_82 rfl rfl rfl ?_
          refine sf_iload_n (i := 3) (j := 1) X dX7_hingeSense_83 rfl rfl rfl ?_
          refine sf_iload (i := 4) (j := 0) X dX7_hingeSense_84 rfl rfl ?_
          refine sf_iload_n (i := 3) (j := 1) X dX7_hingeSense_86 rfl rfl rfl ?_
          refine sf_iload (i := 4) (j := 0) X dX7_hingeSense_87 rfl rfl ?_
          obtain ⟨r182, τ181, hR180, h⟩ := h
          refine sf_callVi (As := [.int y154, .int y179, .int y154, .int y179]) (rest := []) (cv := (RX7, TX7, 23)) X rfl rfl (c_X7_isClear hq hR180) (cwV 4 X.1.2.2.2.2 (sf_gV tw_790 tw_792 tw_26 tw_48 tw_793) rfl rfl rfl ⟨rfl, hd_X7_isClear⟩ ⟨Nat.le_of_ble_eq_true rfl, Nat.le_of_ble_eq_true rfl⟩) rfl rfl (Nat.le_of_ble_eq_true rfl) dX7_hingeSense_89 rfl ?_
          refine sf_if_eq (tgt := 140) X dX7_hingeSense_92 rfl rfl (fun c183 => ?_) (fun c183 => ?_)
          · have h := sf_ift c183 h
            refine sf_iconst (v := 0) X dX7_hingeSense_140 sf_ic_0 rfl ?_
            exact sf_reti X h dX7_hingeSense_141
          · have h := sf_iff c183 h
            refine sf_aload_n (i := 0) (j := 3) X dX7_hingeSense_95 rfl rfl rfl ?_
            refine sf_iload_n (i := 3) (j := 1) X dX7_hingeSense_96 rfl rfl rfl ?_
            refine sf_iload (i := 4) (j := 0) X dX7_hingeSense_97 rfl rfl ?_
            refine sf_iload (i := 4) (j := 0) X dX7_hingeSense_99 rfl rfl ?_
            refine sf_iload_n (i := 3) (j := 1) X dX7_hingeSense_101 rfl rfl rfl ?_
            obtain ⟨r186, τ185, hR184, h⟩ := h
            refine sf_callVi (As := [.int y154, .int y179, .int y179, .int y154]) (rest := []) (cv := (RX7, TX7, 23)) X rfl rfl (c_X7_isClear hq hR184) (cwV 4 X.1.2.2.2.2 (sf_gV tw_790 tw_792 tw_26 tw_48 tw_793) rfl rfl rfl ⟨rfl, hd_X7_isClear⟩ ⟨Nat.le_of_ble_eq_true rfl, Nat.le_of_ble_eq_true rfl⟩) rfl rfl (Nat.le_of_ble_eq_true rfl) dX7_hingeSense_102 rfl ?_
            refine sf_if_eq (tgt := 140) X dX7_hingeSense_105 rfl rfl (fun c187 => ?_) (fun c187 => ?_)
            · have h := sf_ift c187 h
              refine sf_iconst (v := 0) X dX7_hingeSense_140 sf_ic_0 rfl ?_
              exact sf_reti X h dX7_hingeSense_141
            · have h := sf_iff c187 h
              refine sf_aload_n (i := 0) (j := 3) X dX7_hingeSense_108 rfl rfl rfl ?_
              refine sf_iload_n (i := 3) (j := 1) X dX7_hingeSense_109 rfl rfl rfl ?_
              refine sf_iload (i := 4) (j := 0) X dX7_hingeSense_110 rfl rfl ?_
              refine sf_aload_n (i := 0) (j := 3) X dX7_hingeSense_112 rfl rfl rfl ?_
              refine sf_iload_n (i := 3) (j := 1) X dX7_hingeSense_113 rfl rfl rfl ?_
              refine sf_iload (i := 4) (j := 0) X dX7_hingeSense_114 rfl rfl ?_
              obtain ⟨r190, τ189, hR188, h⟩ := h
              refine sf_callVi (As := [.int y154, .int y179]) (rest := [.int y179, .int y154, .ref (q 0)]) (cv := (RX7, TX7, 23)) X rfl rfl (c_X7_leastBeside hq hR188) (cwV 2 X.1.2.2.2.2 (sf_gV tw_798 tw_800 tw_28 tw_48 tw_801) rfl rfl rfl ⟨rfl, hd_X7_leastBeside⟩ ⟨Nat.le_of_ble_eq_true rfl, Nat.le_of_ble_eq_true rfl⟩) rfl rfl (Nat.le_of_ble_eq_true rfl) dX7_hingeSense_116 rfl ?_
              obtain ⟨r193, τ192, hR191, h⟩ := h
              refine sf_callVi (As := [.int y154, .int y179, .int r190]) (rest := []) (cv := (RX7, TX7, 23)) X rfl rfl (c_X7_side hq hR191) (cwV 3 X.1.2.2.2.2 (sf_gV tw_794 tw_796 tw_27 tw_48 tw_797) rfl rfl rfl ⟨rfl, hd_X7_side⟩ ⟨Nat.le_of_ble_eq_true rfl, Nat.le_of_ble_eq_true rfl⟩) rfl rfl (Nat.le_of_ble_eq_true rfl) dX7_hingeSense_119 rfl ?_
              refine sf_aload_n (i := 0) (j := 3) X dX7_hingeSense_122 rfl rfl rfl ?_
              refine sf_iload_n (i := 3) (j := 1) X dX7_hingeSense_123 rfl rfl rfl ?_
              refine sf_iload (i := 4) (j := 0) X dX7_hingeSense_124 rfl rfl ?_
              refine sf_aload_n (i := 0) (j := 3) X dX7_hingeSense_126 rfl rfl rfl ?_
              refine sf_iload (i := 4) (j := 0) X dX7_hingeSense_127 rfl rfl ?_
              refine sf_iload_n (i := 3) (j := 1) X dX7_hingeSense_129 rfl rfl rfl ?_
              obtain ⟨r196, τ195, hR194, h⟩ := h
              refine sf_callVi (As := [.int y179, .int y154]) (rest := [.int y179, .int y154, .ref (q 0), .int r193]) (cv := (RX7, TX7, 23)) X rfl rfl (c_X7_leastBeside hq hR194) (cwV 2 X.1.2.2.2.2 (sf_gV tw_798 tw_800 tw_28 tw_48 tw_801) rfl rfl rfl ⟨rfl, hd_X7_leastBeside⟩ ⟨Nat.le_of_ble_eq_true rfl, Nat.le_of_ble_eq_true rfl⟩) rfl rfl (Nat.le_of_ble_eq_true rfl) dX7_hingeSense_130 rfl ?_
              obtain ⟨r199, τ198, hR197, h⟩ := h
              refine sf_callVi (As := [.int y154, .int y179, .int r196]) (rest := [.int r193]) (cv := (RX7, TX7, 23)) X rfl rfl (c_X7_side hq hR197) (cwV 3 X.1.2.2.2.2 (sf_gV tw_794 tw_796 tw_27 tw_48 tw_797) rfl rfl rfl ⟨rfl, hd_X7_side⟩ ⟨Nat.le_of_ble_eq_true rfl, Nat.le_of_ble_eq_true rfl⟩) rfl rfl (Nat.le_of_ble_eq_true rfl) dX7_hingeSense_133 rfl ?_
              refine sf_imul X dX7_hingeSense_136 rfl ?_
              refine sf_goto (tgt := 141) X dX7_hingeSense_137 rfl ?_
              exact sf_reti X h dX7_hingeSense_141
  · have h := sf_ift c4 h
    refine sf_iconst (v := 0) X dX7_hingeSense_8 sf_ic_0 rfl ?_
    exact sf_reti X h dX7_hingeSense_9
def R_X7_turn (σ : sf_St) (u0 : Int32) (r : Int32) (τ : sf_St) : Prop :=
  ∃ (r3 : Int32) (τ2 : sf_St), R_X7_isBond σ u0 r3 τ2 ∧ (if r3 = (0 : Int32) then (r = (-1 : Int32) ∧ τ = τ2) else (∃ τ6 : sf_St, R_X7_ownNumbers τ2 τ6 ∧ (∃ (r9 : Int32) (τ8 : sf_St), R_X7_hingeSense τ6 u0 r9 τ8 ∧ (∃ (r12 : Int32) (τ11 : sf_St), R_X7_isHinge τ8 u0 r12 τ11 ∧ (if r12 = (0 : Int32) then (r = ((r9 + (1 : Int32)) + (0 : Int32)) ∧ τ = τ11) else (r = ((r9 + (1 : Int32)) + (4 : Int32)) ∧ τ = τ11))))))
set_option maxHeartbeats 4000000 in
set_option maxRecDepth 100000 in
theorem c_X7_turn {l : Launch} {D : va_G} {q : Nat → Nat} {dA : Nat → ClassId}  (hq : sf_inj q KM) {σ τ : sf_St} {u0 : Int32} {r : Int32} (h : R_X7_turn σ u0 r τ) : sf_Mi l yX7_turn wsX7_turn ({ frames := 4, cells := 0, slots := 0, locals := 97 }) D vwCl q dA KM sf_EM [.ref (q 0), .int u0] σ r τ := by
  refine sf_meti (cc := cX7_turn) (maxL := 2) (ret := (some .int)) (own := RX7) (by decide +kernel) rfl rfl hq sf_EMk (Nat.le_of_ble_eq_true rfl) ?_
  intro p e s m args below meth c X
  unfold R_X7_turn at h
  refine sf_loc (lv' := [(0, .ref (q 0)), (1, .int u0)]) [0, 1] rfl ?_
  refine sf_aload_n (i := 0) (j := 0) X dX7_turn_0 rfl rfl rfl ?_
  refine sf_iload_n (i := 1) (j := 1) X dX7_turn_1 rfl rfl rfl ?_
  obtain ⟨r3, τ2, hR1, h⟩ := h
  refine sf_callVi (As := [.int u0]) (rest := []) (cv := (RX7, TX7, 23)) X rfl rfl (c_X7_isBond hq hR1) (cwV 1 X.1.2.2.2.2 (sf_gV tw_735 tw_737 tw_18 tw_48 tw_738) rfl rfl rfl ⟨rfl, hd_X7_isBond⟩ ⟨Nat.le_of_ble_eq_true rfl, Nat.le_of_ble_eq_true rfl⟩) rfl rfl (Nat.le_of_ble_eq_true rfl) dX7_turn_2 rfl ?_
  refine sf_if_ne (tgt := 10) X dX7_turn_5 rfl rfl (fun c4 => ?_) (fun c4 => ?_)
  · have h := sf_iff c4 h
    refine sf_aload_n (i := 0) (j := 0) X dX7_turn_10 rfl rfl rfl ?_
    obtain ⟨τ6, hR5, h⟩ := h
    refine sf_callVv (As := []) (rest := []) (cv := (RX7, TX7, 23)) X rfl rfl (c_X7_ownNumbers hq hR5) (cwV 0 X.1.2.2.2.2 (sf_gV tw_755 tw_757 tw_19 tw_48 tw_758) rfl rfl rfl ⟨rfl, hd_X7_ownNumbers⟩ ⟨Nat.le_of_ble_eq_true rfl, Nat.le_of_ble_eq_true rfl⟩) rfl rfl (Nat.le_of_ble_eq_true rfl) dX7_turn_11 rfl ?_
    refine sf_aload_n (i := 0) (j := 0) X dX7_turn_14 rfl rfl rfl ?_
    refine sf_iload_n (i := 1) (j := 1) X dX7_turn_15 rfl rfl rfl ?_
    obtain ⟨r9, τ8, hR7, h⟩ := h
    refine sf_callVi (As := [.int u0]) (rest := []) (cv := (RX7, TX7, 23)) X rfl rfl (c_X7_hingeSense hq hR7) (cwV 1 X.1.2.2.2.2 (sf_gV tw_782 tw_784 tw_24 tw_48 tw_785) rfl rfl rfl ⟨rfl, hd_X7_hingeSense⟩ ⟨Nat.le_of_ble_eq_true rfl, Nat.le_of_ble_eq_true rfl⟩) rfl rfl (Nat.le_of_ble_eq_true rfl) dX7_turn_16 rfl ?_
    refine sf_iconst (v := 1) X dX7_turn_19 sf_ic_1 rfl ?_
    refine sf_iadd X dX7_turn_20 rfl ?_
    refine sf_aload_n (i := 0) (j := 0) X dX7_turn_21 rfl rfl rfl ?_
    refine sf_iload_n (i := 1) (j := 1) X dX7_turn_22 rfl rfl rfl ?_
    obtain ⟨r12, τ11, hR10, h⟩ := h
    refine sf_callVi (As := [.int u0]) (rest := [.int (r9 + (1 : Int32))]) (cv := (RX7, TX7, 23)) X rfl rfl (c_X7_isHinge hq hR10) (cwV 1 X.1.2.2.2.2 (sf_gV tw_786 tw_788 tw_25 tw_48 tw_789) rfl rfl rfl ⟨rfl, hd_X7_isHinge⟩ ⟨Nat.le_of_ble_eq_true rfl, Nat.le_of_ble_eq_true rfl⟩) rfl rfl (Nat.le_of_ble_eq_true rfl) dX7_turn_23 rfl ?_
    refine sf_if_eq (tgt := 33) X dX7_turn_26 rfl rfl (fun c13 => ?_) (fun c13 => ?_)
    · have h := sf_ift c13 h
      refine sf_iconst (v := 0) X dX7_turn_33 sf_ic_0 rfl ?_
      refine sf_iadd X dX7_turn_34 rfl ?_
      exact sf_reti X h dX7_turn_35
    · have h := sf_iff c13 h
      refine sf_iconst (v := 4) X dX7_turn_29 sf_ic_4 rfl ?_
      refine sf_goto (tgt := 34) X dX7_turn_30 rfl ?_
      refine sf_iadd X dX7_turn_34 rfl ?_
      exact sf_reti X h dX7_turn_35
  · have h := sf_ift c4 h
    refine sf_iconst (v := (-1)) X dX7_turn_8 sf_ic_m1 rfl ?_
    exact sf_reti X h dX7_turn_9
def R_X7_swap (σ : sf_St) (u0 u1 : Int32) (τ : sf_St) : Prop :=
  vp_in u0 7 ∧ (∀ y2 : Int32, y2 = (σ 8 (sf_ix u0)) → (vp_in u1 7 ∧ (vp_in u0 7 ∧ (∀ τ5 : sf_St, τ5 = sf_up σ 8 (sf_ix u0) (σ 8 (sf_ix u1)) → (vp_in u1 7 ∧ (∀ τ7 : sf_St, τ7 = sf_up τ5 8 (sf_ix u1) y2 → (τ = τ7)))))))
set_option maxHeartbeats 4000000 in
set_option maxRecDepth 100000 in
theorem c_X7_swap {l : Launch} {D : va_G} {q : Nat → Nat} {dA : Nat → ClassId}  (hq : sf_inj q KM) {σ τ : sf_St} {u0 u1 : Int32} (h : R_X7_swap σ u0 u1 τ) : sf_Mv l yX7_swap wsX7_swap ({ frames := 0, cells := 0, slots := 0, locals := 0 }) D vwCl q dA KM sf_EM [.ref (q 0), .int u0, .int u1] σ τ := by
  refine sf_metv (cc := cX7_swap) (maxL := 4) (ret := none) (own := RX7) (by decide +kernel) rfl rfl hq sf_EMk (Nat.le_of_ble_eq_true rfl) ?_
  intro p e s m args below meth c X
  unfold R_X7_swap at h
  refine sf_loc (lv' := [(0, .ref (q 0)), (1, .int u0), (2, .int u1)]) [0, 1, 2] rfl ?_
  refine sf_aload_n (i := 0) (j := 0) X dX7_swap_0 rfl rfl rfl ?_
  refine sf_getR (C := RX7) (T := TX7) (N := 23) (ci := 7) (j := 9) (k' := 8) X (fun w h => sf_memc (inX7 w h)) rfl rfl (by decide) (X.1.2.2.2.2 _ (sf_memc tw_640)) (fun _ h9 => h9) rfl dX7_swap_1 rfl ?_
  refine sf_iload_n (i := 1) (j := 1) X dX7_swap_4 rfl rfl rfl ?_
  obtain ⟨b1, h⟩ := h
  refine sf_iald X rfl b1 dX7_swap_5 rfl ?_
  refine sf_top (fun y2 hy2 => ?_)
  have h := h y2 hy2
  refine sf_istore_n (i := 3) (lv' := [(3, .int y2), (0, .ref (q 0)), (1, .int u0), (2, .int u1)]) X dX7_swap_6 rfl (by decide) rfl rfl ?_
  refine sf_aload_n (i := 0) (j := 1) X dX7_swap_7 rfl rfl rfl ?_
  refine sf_getR (C := RX7) (T := TX7) (N := 23) (ci := 7) (j := 9) (k' := 8) X (fun w h => sf_memc (inX7 w h)) rfl rfl (by decide) (X.1.2.2.2.2 _ (sf_memc tw_640)) (fun _ h9 => h9) rfl dX7_swap_8 rfl ?_
  refine sf_iload_n (i := 1) (j := 2) X dX7_swap_11 rfl rfl rfl ?_
  refine sf_aload_n (i := 0) (j := 1) X dX7_swap_12 rfl rfl rfl ?_
  refine sf_getR (C := RX7) (T := TX7) (N := 23) (ci := 7) (j := 9) (k' := 8) X (fun w h => sf_memc (inX7 w h)) rfl rfl (by decide) (X.1.2.2.2.2 _ (sf_memc tw_640)) (fun _ h9 => h9) rfl dX7_swap_13 rfl ?_
  refine sf_iload_n (i := 2) (j := 3) X dX7_swap_16 rfl rfl rfl ?_
  obtain ⟨b3, h⟩ := h
  refine sf_iald X rfl b3 dX7_swap_17 rfl ?_
  obtain ⟨b4, h⟩ := h
  refine sf_iast X rfl b4 dX7_swap_18 rfl (fun τ5 hτ5 => ?_)
  have h := h τ5 hτ5
  refine sf_aload_n (i := 0) (j := 1) X dX7_swap_19 rfl rfl rfl ?_
  refine sf_getR (C := RX7) (T := TX7) (N := 23) (ci := 7) (j := 9) (k' := 8) X (fun w h => sf_memc (inX7 w h)) rfl rfl (by decide) (X.1.2.2.2.2 _ (sf_memc tw_640)) (fun _ h9 => h9) rfl dX7_swap_20 rfl ?_
  refine sf_iload_n (i := 2) (j := 3) X dX7_swap_23 rfl rfl rfl ?_
  refine sf_iload_n (i := 3) (j := 0) X dX7_swap_24 rfl rfl rfl ?_
  obtain ⟨b6, h⟩ := h
  refine sf_iast X rfl b6 dX7_swap_25 rfl (fun τ7 hτ7 => ?_)
  have h := h τ7 hτ7
  exact sf_retv X h dX7_swap_26
def tr_R_X7_nextOrder_0 (Pr : Nat → sf_St → Int32 → Int32 → Int32 → Prop) (r : Int32) (τ : sf_St) (σ : sf_St) (u0 u1 u2 : Int32) : Prop :=
  ∀ y1 : Int32, y1 = ((σ 0 0) - (2 : Int32)) → (Pr 1 σ y1 0 0)
def tr_R_X7_nextOrder_1 (Pr : Nat → sf_St → Int32 → Int32 → Int32 → Prop) (r : Int32) (τ : sf_St) (σ : sf_St) (u0 u1 u2 : Int32) : Prop :=
  if u0 < (0 : Int32) then (if (0 : Int32) ≤ u0 then (∀ y4 : Int32, y4 = ((σ 0 0) - (1 : Int32)) → (Pr 2 σ u0 y4 0)) else (r = (0 : Int32) ∧ τ = σ)) else (vp_in u0 7 ∧ (vp_in (u0 + (1 : Int32)) 7 ∧ (if (σ 8 (sf_ix u0)) ≤ (σ 8 (sf_ix (u0 + (1 : Int32)))) then (if (0 : Int32) ≤ u0 then (∀ y9 : Int32, y9 = ((σ 0 0) - (1 : Int32)) → (Pr 2 σ u0 y9 0)) else (r = (0 : Int32) ∧ τ = σ)) else (∀ y10 : Int32, y10 = u0 + (-1 : Int32) → (Pr 1 σ y10 0 0)))))
def tr_R_X7_nextOrder_2 (Pr : Nat → sf_St → Int32 → Int32 → Int32 → Prop) (r : Int32) (τ : sf_St) (σ : sf_St) (u0 u1 u2 : Int32) : Prop :=
  vp_in u1 7 ∧ (vp_in u0 7 ∧ (if (σ 8 (sf_ix u0)) ≤ (σ 8 (sf_ix u1)) then (∃ τ15 : sf_St, R_X7_swap σ u0 u1 τ15 ∧ (Pr 3 τ15 u0 u1 (1 : Int32))) else (∀ y16 : Int32, y16 = u1 + (-1 : Int32) → (Pr 2 σ u0 y16 0))))
def tr_R_X7_nextOrder_3 (Pr : Nat → sf_St → Int32 → Int32 → Int32 → Prop) (r : Int32) (τ : sf_St) (σ : sf_St) (u0 u1 u2 : Int32) : Prop :=
  if ((σ 0 0) - u2) ≤ (u0 + u2) then (r = (1 : Int32) ∧ τ = σ) else (∃ τ19 : sf_St, R_X7_swap σ (u0 + u2) ((σ 0 0) - u2) τ19 ∧ (∀ y20 : Int32, y20 = u2 + (1 : Int32) → (Pr 3 τ19 u0 u1 y20)))
def fn_R_X7_nextOrder (Pr : Nat → sf_St → Int32 → Int32 → Int32 → Prop) (r : Int32) (τ : sf_St) (t : Nat) (σ : sf_St) (u0 u1 u2 : Int32) : Prop := match t with
  | 0 => tr_R_X7_nextOrder_0 Pr r τ σ u0 u1 u2
  | 1 => tr_R_X7_nextOrder_1 Pr r τ σ u0 u1 u2
  | 2 => tr_R_X7_nextOrder_2 Pr r τ σ u0 u1 u2
  | 3 => tr_R_X7_nextOrder_3 Pr r τ σ u0 u1 u2
  | _ => False
def Rn_R_X7_nextOrder (t : Nat) (σ : sf_St) (u0 u1 u2 : Int32) (r : Int32) (τ : sf_St) : Prop := ∀ Pr : Nat → sf_St → Int32 → Int32 → Int32 → Prop, (∀ (t : Nat) (σ : sf_St) (u0 u1 u2 : Int32), fn_R_X7_nextOrder Pr r τ t σ u0 u1 u2 → Pr t σ u0 u1 u2) → Pr t σ u0 u1 u2
def R_X7_nextOrder (σ : sf_St) (r : Int32) (τ : sf_St) : Prop := Rn_R_X7_nextOrder 0 σ  0 0 0 r τ
theorem fe_R_X7_nextOrder_0 {Pr : Nat → sf_St → Int32 → Int32 → Int32 → Prop} {r : Int32} {τ σ : sf_St} {u0 u1 u2 : Int32} (h : fn_R_X7_nextOrder Pr r τ 0 σ u0 u1 u2) : tr_R_X7_nextOrder_0 Pr r τ σ u0 u1 u2 := h
theorem mo_R_X7_nextOrder_0 {Pr Pr' : Nat → sf_St → Int32 → Int32 → Int32 → Prop} {r : Int32} {τ σ : sf_St} {u0 u1 u2 : Int32} (hP : ∀ (t : Nat) (σ : sf_St) (u0 u1 u2 : Int32), Pr t σ u0 u1 u2 → Pr' t σ u0 u1 u2) (h : tr_R_X7_nextOrder_0 Pr r τ σ u0 u1 u2) : tr_R_X7_nextOrder_0 Pr' r τ σ u0 u1 u2 := by
  unfold tr_R_X7_nextOrder_0 at h ⊢
  intro y1 hy1
  have h := h y1 hy1
  exact hP _ _ _ _ _ h
theorem ru_R_X7_nextOrder_0 {r : Int32} {τ σ : sf_St} {u0 u1 u2 : Int32} (h : tr_R_X7_nextOrder_0 (fun t σ u0 u1 u2 => Rn_R_X7_nextOrder t σ u0 u1 u2 r τ) r τ σ u0 u1 u2) : Rn_R_X7_nextOrder 0 σ u0 u1 u2 r τ := fun Pr hP => hP 0 σ u0 u1 u2 (mo_R_X7_nextOrder_0 (fun _ _ _ _ _ h => h Pr hP) h)
theorem fe_R_X7_nextOrder_1 {Pr : Nat → sf_St → Int32 → Int32 → Int32 → Prop} {r : Int32} {τ σ : sf_St} {u0 u1 u2 : Int32} (h : fn_R_X7_nextOrder Pr r τ 1 σ u0 u1 u2) : tr_R_X7_nextOrder_1 Pr r τ σ u0 u1 u2 := h
theorem mo_R_X7_nextOrder_1 {Pr Pr' : Nat → sf_St → Int32 → Int32 → Int32 → Prop} {r : Int32} {τ σ : sf_St} {u0 u1 u2 : Int32} (hP : ∀ (t : Nat) (σ : sf_St) (u0 u1 u2 : Int32), Pr t σ u0 u1 u2 → Pr' t σ u0 u1 u2) (h : tr_R_X7_nextOrder_1 Pr r τ σ u0 u1 u2) : tr_R_X7_nextOrder_1 Pr' r τ σ u0 u1 u2 := by
  unfold tr_R_X7_nextOrder_1 at h ⊢
  refine sf_mif (fun h => ?_) (fun h => ?_) h
  · refine sf_mif (fun h => ?_) (fun h => ?_) h
    · intro y4 hy4
      have h := h y4 hy4
      exact hP _ _ _ _ _ h
    · exact h
  · refine And.imp id (fun h => ?_) h
    refine And.imp id (fun h => ?_) h
    refine sf_mif (fun h => ?_) (fun h => ?_) h
    · refine sf_mif (fun h => ?_) (fun h => ?_) h
      · intro y9 hy9
        have h := h y9 hy9
        exact hP _ _ _ _ _ h
      · exact h
    · intro y10 hy10
      have h := h y10 hy10
      exact hP _ _ _ _ _ h
theorem ru_R_X7_nextOrder_1 {r : Int32} {τ σ : sf_St} {u0 u1 u2 : Int32} (h : tr_R_X7_nextOrder_1 (fun t σ u0 u1 u2 => Rn_R_X7_nextOrder t σ u0 u1 u2 r τ) r τ σ u0 u1 u2) : Rn_R_X7_nextOrder 1 σ u0 u1 u2 r τ := fun Pr hP => hP 1 σ u0 u1 u2 (mo_R_X7_nextOrder_1 (fun _ _ _ _ _ h => h Pr hP) h)
theorem fe_R_X7_nextOrder_2 {Pr : Nat → sf_St → Int32 → Int32 → Int32 → Prop} {r : Int32} {τ σ : sf_St} {u0 u1 u2 : Int32} (h : fn_R_X7_nextOrder Pr r τ 2 σ u0 u1 u2) : tr_R_X7_nextOrder_2 Pr r τ σ u0 u1 u2 := h
theorem mo_R_X7_nextOrder_2 {Pr Pr' : Nat → sf_St → Int32 → Int32 → Int32 → Prop} {r : Int32} {τ σ : sf_St} {u0 u1 u2 : Int32} (hP : ∀ (t : Nat) (σ : sf_St) (u0 u1 u2 : Int32), Pr t σ u0 u1 u2 → Pr' t σ u0 u1 u2) (h : tr_R_X7_nextOrder_2 Pr r τ σ u0 u1 u2) : tr_R_X7_nextOrder_2 Pr' r τ σ u0 u1 u2 := by
  unfold tr_R_X7_nextOrder_2 at h ⊢
  refine And.imp id (fun h => ?_) h
  refine And.imp id (fun h => ?_) h
  refine sf_mif (fun h => ?_) (fun h => ?_) h
  · refine Exists.imp (fun _ h => And.imp id (fun h => ?_) h) h
    exact hP _ _ _ _ _ h
  · intro y16 hy16
    have h := h y16 hy16
    exact hP _ _ _ _ _ h
theorem ru_R_X7_nextOrder_2 {r : Int32} {τ σ : sf_St} {u0 u1 u2 : Int32} (h : tr_R_X7_nextOrder_2 (fun t σ u0 u1 u2 => Rn_R_X7_nextOrder t σ u0 u1 u2 r τ) r τ σ u0 u1 u2) : Rn_R_X7_nextOrder 2 σ u0 u1 u2 r τ := fun Pr hP => hP 2 σ u0 u1 u2 (mo_R_X7_nextOrder_2 (fun _ _ _ _ _ h => h Pr hP) h)
theorem fe_R_X7_nextOrder_3 {Pr : Nat → sf_St → Int32 → Int32 → Int32 → Prop} {r : Int32} {τ σ : sf_St} {u0 u1 u2 : Int32} (h : fn_R_X7_nextOrder Pr r τ 3 σ u0 u1 u2) : tr_R_X7_nextOrder_3 Pr r τ σ u0 u1 u2 := h
theorem mo_R_X7_nextOrder_3 {Pr Pr' : Nat → sf_St → Int32 → Int32 → Int32 → Prop} {r : Int32} {τ σ : sf_St} {u0 u1 u2 : Int32} (hP : ∀ (t : Nat) (σ : sf_St) (u0 u1 u2 : Int32), Pr t σ u0 u1 u2 → Pr' t σ u0 u1 u2) (h : tr_R_X7_nextOrder_3 Pr r τ σ u0 u1 u2) : tr_R_X7_nextOrder_3 Pr' r τ σ u0 u1 u2 := by
  unfold tr_R_X7_nextOrder_3 at h ⊢
  refine sf_mif (fun h => ?_) (fun h => ?_) h
  · exact h
  · refine Exists.imp (fun _ h => And.imp id (fun h => ?_) h) h
    intro y20 hy20
    have h := h y20 hy20
    exact hP _ _ _ _ _ h
theorem ru_R_X7_nextOrder_3 {r : Int32} {τ σ : sf_St} {u0 u1 u2 : Int32} (h : tr_R_X7_nextOrder_3 (fun t σ u0 u1 u2 => Rn_R_X7_nextOrder t σ u0 u1 u2 r τ) r τ σ u0 u1 u2) : Rn_R_X7_nextOrder 3 σ u0 u1 u2 r τ := fun Pr hP => hP 3 σ u0 u1 u2 (mo_R_X7_nextOrder_3 (fun _ _ _ _ _ h => h Pr hP) h)
set_option maxHeartbeats 4000000 in
set_option maxRecDepth 100000 in
theorem c_X7_nextOrder {l : Launch} {D : va_G} {q : Nat → Nat} {dA : Nat → ClassId}  (hq : sf_inj q KM) {σ τ : sf_St} {r : Int32} (h : R_X7_nextOrder σ  r τ) : sf_Mi l yX7_nextOrder wsX7_nextOrder ({ frames := 1, cells := 0, slots := 0, locals := 23 }) D vwCl q dA KM sf_EM [.ref (q 0)] σ r τ := by
  refine sf_meti (cc := cX7_nextOrder) (maxL := 4) (ret := (some .boolean)) (own := RX7) (by decide +kernel) rfl rfl hq sf_EMk (Nat.le_of_ble_eq_true rfl) ?_
  intro p e s m args below meth c X
  refine sf_loc (lv' := [(0, .ref (q 0))]) [0] rfl ?_
  refine h (fun t σ u0 u1 u2 => match t with
    | 0 => sf_G p l e (headSpec wsX7_nextOrder ({ frames := 1, cells := 0, slots := 0, locals := 23 })).room s m args below meth c (sf_Qi D vwCl q dA KM sf_EM below args s r τ) 4 D vwCl q dA KM σ 0 [(0, .ref (q 0))] []
    | 1 => sf_G p l e (headSpec wsX7_nextOrder ({ frames := 1, cells := 0, slots := 0, locals := 23 })).room s m args below meth c (sf_Qi D vwCl q dA KM sf_EM below args s r τ) 4 D vwCl q dA KM σ 7 [(0, .ref (q 0)), (1, .int u0)] []
    | 2 => sf_G p l e (headSpec wsX7_nextOrder ({ frames := 1, cells := 0, slots := 0, locals := 23 })).room s m args below meth c (sf_Qi D vwCl q dA KM sf_EM below args s r τ) 4 D vwCl q dA KM σ 47 [(0, .ref (q 0)), (1, .int u0), (2, .int u1)] []
    | 3 => sf_G p l e (headSpec wsX7_nextOrder ({ frames := 1, cells := 0, slots := 0, locals := 23 })).room s m args below meth c (sf_Qi D vwCl q dA KM sf_EM below args s r τ) 4 D vwCl q dA KM σ 76 [(0, .ref (q 0)), (1, .int u0), (2, .int u1), (3, .int u2)] []
    | _ => True) ?_
  intro t σ u0 u1 u2 h
  match t, h with
  | 0, h =>
      replace h := fe_R_X7_nextOrder_0 h
      unfold tr_R_X7_nextOrder_0 at h
      show sf_G p l e (headSpec wsX7_nextOrder ({ frames := 1, cells := 0, slots := 0, locals := 23 })).room s m args below meth c (sf_Qi D vwCl q dA KM sf_EM below args s r τ) 4 D vwCl q dA KM σ 0 [(0, .ref (q 0))] []
      refine sf_aload_n (i := 0) (j := 0) X dX7_nextOrder_0 rfl rfl rfl ?_
      refine sf_getI (C := RX7) (T := TX7) (N := 23) (ci := 7) (j := 0) X (fun w h => sf_memc (inX7 w h)) rfl rfl (by decide) (X.1.2.2.2.2 _ (sf_memc tw_631)) (fun _ h9 => h9) rfl dX7_nextOrder_1 rfl ?_
      refine sf_iconst (v := 2) X dX7_nextOrder_4 sf_ic_2 rfl ?_
      refine sf_isub X dX7_nextOrder_5 rfl ?_
      refine sf_top (fun y1 hy1 => ?_)
      have h := h y1 hy1
      refine sf_istore_n (i := 1) (lv' := [(1, .int y1), (0, .ref (q 0))]) X dX7_nextOrder_6 rfl (by decide) rfl rfl ?_
      refine sf_loc (lv' := [(0, .ref (q 0)), (1, .int y1)]) [1, 0] rfl ?_
      exact h
  | 1, h =>
      replace h := fe_R_X7_nextOrder_1 h
      unfold tr_R_X7_nextOrder_1 at h
      show sf_G p l e (headSpec wsX7_nextOrder ({ frames := 1, cells := 0, slots := 0, locals := 23 })).room s m args below meth c (sf_Qi D vwCl q dA KM sf_EM below args s r τ) 4 D vwCl q dA KM σ 7 [(0, .ref (q 0)), (1, .int u0)] []
      refine sf_iload_n (i := 1) (j := 1) X dX7_nextOrder_7 rfl rfl rfl ?_
      refine sf_if_lt (tgt := 34) X dX7_nextOrder_8 rfl rfl (fun c2 => ?_) (fun c2 => ?_)
      · have h := sf_ift c2 h
        refine sf_iload_n (i := 1) (j := 1) X dX7_nextOrder_34 rfl rfl rfl ?_
        refine sf_if_ge (tgt := 40) X dX7_nextOrder_35 rfl rfl (fun c3 => ?_) (fun c3 => ?_)
        · have h := sf_ift c3 h
          refine sf_aload_n (i := 0) (j := 0) X dX7_nextOrder_40 rfl rfl rfl ?_
          refine sf_getI (C := RX7) (T := TX7) (N := 23) (ci := 7) (j := 0) X (fun w h => sf_memc (inX7 w h)) rfl rfl (by decide) (X.1.2.2.2.2 _ (sf_memc tw_631)) (fun _ h9 => h9) rfl dX7_nextOrder_41 rfl ?_
          refine sf_iconst (v := 1) X dX7_nextOrder_44 sf_ic_1 rfl ?_
          refine sf_isub X dX7_nextOrder_45 rfl ?_
          refine sf_top (fun y4 hy4 => ?_)
          have h := h y4 hy4
          refine sf_istore_n (i := 2) (lv' := [(2, .int y4), (0, .ref (q 0)), (1, .int u0)]) X dX7_nextOrder_46 rfl (by decide) rfl rfl ?_
          refine sf_loc (lv' := [(0, .ref (q 0)), (1, .int u0), (2, .int y4)]) [1, 2, 0] rfl ?_
          exact h
        · have h := sf_iff c3 h
          refine sf_iconst (v := 0) X dX7_nextOrder_38 sf_ic_0 rfl ?_
          exact sf_retz X h rfl dX7_nextOrder_39
      · have h := sf_iff c2 h
        refine sf_aload_n (i := 0) (j := 0) X dX7_nextOrder_11 rfl rfl rfl ?_
        refine sf_getR (C := RX7) (T := TX7) (N := 23) (ci := 7) (j := 9) (k' := 8) X (fun w h => sf_memc (inX7 w h)) rfl rfl (by decide) (X.1.2.2.2.2 _ (sf_memc tw_640)) (fun _ h9 => h9) rfl dX7_nextOrder_12 rfl ?_
        refine sf_iload_n (i := 1) (j := 1) X dX7_nextOrder_15 rfl rfl rfl ?_
        obtain ⟨b5, h⟩ := h
        refine sf_iald X rfl b5 dX7_nextOrder_16 rfl ?_
        refine sf_aload_n (i := 0) (j := 0) X dX7_nextOrder_17 rfl rfl rfl ?_
        refine sf_getR (C := RX7) (T := TX7) (N := 23) (ci := 7) (j := 9) (k' := 8) X (fun w h => sf_memc (inX7 w h)) rfl rfl (by decide) (X.1.2.2.2.2 _ (sf_memc tw_640)) (fun _ h9 => h9) rfl dX7_nextOrder_18 rfl ?_
        refine sf_iload_n (i := 1) (j := 1) X dX7_nextOrder_21 rfl rfl rfl ?_
        refine sf_iconst (v := 1) X dX7_nextOrder_22 sf_ic_1 rfl ?_
        refine sf_iadd X dX7_nextOrder_23 rfl ?_
        obtain ⟨b6, h⟩ := h
        refine sf_iald X rfl b6 dX7_nextOrder_24 rfl ?_
        refine sf_icmp_le (tgt := 34) X dX7_nextOrder_25 rfl rfl (fun c7 => ?_) (fun c7 => ?_)
        · have h := sf_ift c7 h
          refine sf_iload_n (i := 1) (j := 1) X dX7_nextOrder_34 rfl rfl rfl ?_
          refine sf_if_ge (tgt := 40) X dX7_nextOrder_35 rfl rfl (fun c8 => ?_) (fun c8 => ?_)
          · have h := sf_ift c8 h
            refine sf_aload_n (i := 0) (j := 0) X dX7_nextOrder_40 rfl rfl rfl ?_
            refine sf_getI (C := RX7) (T := TX7) (N := 23) (ci := 7) (j := 0) X (fun w h => sf_memc (inX7 w h)) rfl rfl (by decide) (X.1.2.2.2.2 _ (sf_memc tw_631)) (fun _ h9 => h9) rfl dX7_nextOrder_41 rfl ?_
            refine sf_iconst (v := 1) X dX7_nextOrder_44 sf_ic_1 rfl ?_
            refine sf_isub X dX7_nextOrder_45 rfl ?_
            refine sf_top (fun y9 hy9 => ?_)
            have h := h y9 hy9
            refine sf_istore_n (i := 2) (lv' := [(2, .int y9), (0, .ref (q 0)), (1, .int u0)]) X dX7_nextOrder_46 rfl (by decide) rfl rfl ?_
            refine sf_loc (lv' := [(0, .ref (q 0)), (1, .int u0), (2, .int y9)]) [1, 2, 0] rfl ?_
            exact h
          · have h := sf_iff c8 h
            refine sf_iconst (v := 0) X dX7_nextOrder_38 sf_ic_0 rfl ?_
            exact sf_retz X h rfl dX7_nextOrder_39
        · have h := sf_iff c7 h
          refine sf_iinc (i := 1) (j := 1) (d := (-1)) (lv' := fun y10 => [(1, .int y10), (0, .ref (q 0))]) X dX7_nextOrder_28 rfl sf_ic_m1 (by decide) (fun _ => rfl) rfl (fun y10 hy10 => ?_)
          have h := h y10 hy10
          refine sf_goto (tgt := 7) X dX7_nextOrder_31 rfl ?_
          refine sf_loc (lv' := [(0, .ref (q 0)), (1, .int y10)]) [1, 0] rfl ?_
          exact h
  | 2, h =>
      replace h := fe_R_X7_nextOrder_2 h
      unfold tr_R_X7_nextOrder_2 at h
      show sf_G p l e (headSpec wsX7_nextOrder ({ frames := 1, cells := 0, slots := 0, locals := 23 })).room s m args below meth c (sf_Qi D vwCl q dA KM sf_EM below args s r τ) 4 D vwCl q dA KM σ 47 [(0, .ref (q 0)), (1, .int u0), (2, .int u1)] []
      refine sf_aload_n (i := 0) (j := 0) X dX7_nextOrder_47 rfl rfl rfl ?_
      refine sf_getR (C := RX7) (T := TX7) (N := 23) (ci := 7) (j := 9) (k' := 8) X (fun w h => sf_memc (inX7 w h)) rfl rfl (by decide) (X.1.2.2.2.2 _ (sf_memc tw_640)) (fun _ h9 => h9) rfl dX7_nextOrder_48 rfl ?_
      refine sf_iload_n (i := 2) (j := 2) X dX7_nextOrder_51 rfl rfl rfl ?_
      obtain ⟨b11, h⟩ := h
      refine sf_iald X rfl b11 dX7_nextOrder_52 rfl ?_
      refine sf_aload_n (i := 0) (j := 0) X dX7_nextOrder_53 rfl rfl rfl ?_
      refine sf_getR (C := RX7) (T := TX7) (N := 23) (ci := 7) (j := 9) (k' := 8) X (fun w h => sf_memc (inX7 w h)) rfl rfl (by decide) (X.1.2.2.2.2 _ (sf_memc tw_640)) (fun _ h9 => h9) rfl dX7_nextOrder_54 rfl ?_
      refine sf_iload_n (i := 1) (j := 1) X dX7_nextOrder_57 rfl rfl rfl ?_
      obtain ⟨b12, h⟩ := h
      refine sf_iald X rfl b12 dX7_nextOrder_58 rfl ?_
      refine sf_icmp_ge (tgt := 68) X dX7_nextOrder_59 rfl rfl (fun c13 => ?_) (fun c13 => ?_)
      · have h := sf_ift c13 h
        refine sf_aload_n (i := 0) (j := 0) X dX7_nextOrder_68 rfl rfl rfl ?_
        refine sf_iload_n (i := 1) (j := 1) X dX7_nextOrder_69 rfl rfl rfl ?_
        refine sf_iload_n (i := 2) (j := 2) X dX7_nextOrder_70 rfl rfl rfl ?_
        obtain ⟨τ15, hR14, h⟩ := h
        refine sf_callVv (As := [.int u0, .int u1]) (rest := []) (cv := (RX7, TX7, 23)) X rfl rfl (c_X7_swap hq hR14) (cwV 2 X.1.2.2.2.2 (sf_gV tw_823 tw_825 tw_33 tw_48 tw_826) rfl rfl rfl ⟨rfl, hd_X7_swap⟩ ⟨Nat.le_of_ble_eq_true rfl, Nat.le_of_ble_eq_true rfl⟩) rfl rfl (Nat.le_of_ble_eq_true rfl) dX7_nextOrder_71 rfl ?_
        refine sf_iconst (v := 1) X dX7_nextOrder_74 sf_ic_1 rfl ?_
        refine sf_istore_n (i := 3) (lv' := [(3, .int (1 : Int32)), (0, .ref (q 0)), (1, .int u0), (2, .int u1)]) X dX7_nextOrder_75 rfl (by decide) rfl rfl ?_
        refine sf_loc (lv' := [(0, .ref (q 0)), (1, .int u0), (2, .int u1), (3, .int (1 : Int32))]) [1, 2, 3, 0] rfl ?_
        exact h
      · have h := sf_iff c13 h
        refine sf_iinc (i := 2) (j := 2) (d := (-1)) (lv' := fun y16 => [(2, .int y16), (0, .ref (q 0)), (1, .int u0)]) X dX7_nextOrder_62 rfl sf_ic_m1 (by decide) (fun _ => rfl) rfl (fun y16 hy16 => ?_)
        have h := h y16 hy16
        refine sf_goto (tgt := 47) X dX7_nextOrder_65 rfl ?_
        refine sf_loc (lv' := [(0, .ref (q 0)), (1, .int u0), (2, .int y16)]) [1, 2, 0] rfl ?_
        exact h
  | 3, h =>
      replace h := fe_R_X7_nextOrder_3 h
      unfold tr_R_X7_nextOrder_3 at h
      show sf_G p l e (headSpec wsX7_nextOrder ({ frames := 1, cells := 0, slots := 0, locals := 23 })).room s m args below meth c (sf_Qi D vwCl q dA KM sf_EM below args s r τ) 4 D vwCl q dA KM σ 76 [(0, .ref (q 0)), (1, .int u0), (2, .int u1), (3, .int u2)] []
      refine sf_iload_n (i := 1) (j := 1) X dX7_nextOrder_76 rfl rfl rfl ?_
      refine sf_iload_n (i := 3) (j := 3) X dX7_nextOrder_77 rfl rfl rfl ?_
      refine sf_iadd X dX7_nextOrder_78 rfl ?_
      refine sf_aload_n (i := 0) (j := 0) X dX7_nextOrder_79 rfl rfl rfl ?_
      refine sf_getI (C := RX7) (T := TX7) (N := 23) (ci := 7) (j := 0) X (fun w h => sf_memc (inX7 w h)) rfl rfl (by decide) (X.1.2.2.2.2 _ (sf_memc tw_631)) (fun _ h9 => h9) rfl dX7_nextOrder_80 rfl ?_
      refine sf_iload_n (i := 3) (j := 3) X dX7_nextOrder_83 rfl rfl rfl ?_
      refine sf_isub X dX7_nextOrder_84 rfl ?_
      refine sf_icmp_ge (tgt := 107) X dX7_nextOrder_85 rfl rfl (fun c17 => ?_) (fun c17 => ?_)
      · have h := sf_ift c17 h
        refine sf_iconst (v := 1) X dX7_nextOrder_107 sf_ic_1 rfl ?_
        exact sf_retz X h rfl dX7_nextOrder_108
      · have h := sf_iff c17 h
        refine sf_aload_n (i := 0) (j := 0) X dX7_nextOrder_88 rfl rfl rfl ?_
        refine sf_iload_n (i := 1) (j := 1) X dX7_nextOrder_89 rfl rfl rfl ?_
        refine sf_iload_n (i := 3) (j := 3) X dX7_nextOrder_90 rfl rfl rfl ?_
        refine sf_iadd X dX7_nextOrder_91 rfl ?_
        refine sf_aload_n (i := 0) (j := 0) X dX7_nextOrder_92 rfl rfl rfl ?_
        refine sf_getI (C := RX7) (T := TX7) (N := 23) (ci := 7) (j := 0) X (fun w h => sf_memc (inX7 w h)) rfl rfl (by decide) (X.1.2.2.2.2 _ (sf_memc tw_631)) (fun _ h9 => h9) rfl dX7_nextOrder_93 rfl ?_
        refine sf_iload_n (i := 3) (j := 3) X dX7_nextOrder_96 rfl rfl rfl ?_
        refine sf_isub X dX7_nextOrder_97 rfl ?_
        obtain ⟨τ19, hR18, h⟩ := h
        refine sf_callVv (As := [.int (u0 + u2), .int ((σ 0 0) - u2)]) (rest := []) (cv := (RX7, TX7, 23)) X rfl rfl (c_X7_swap hq hR18) (cwV 2 X.1.2.2.2.2 (sf_gV tw_823 tw_825 tw_33 tw_48 tw_826) rfl rfl rfl ⟨rfl, hd_X7_swap⟩ ⟨Nat.le_of_ble_eq_true rfl, Nat.le_of_ble_eq_true rfl⟩) rfl rfl (Nat.le_of_ble_eq_true rfl) dX7_nextOrder_98 rfl ?_
        refine sf_iinc (i := 3) (j := 3) (d := 1) (lv' := fun y20 => [(3, .int y20), (0, .ref (q 0)), (1, .int u0), (2, .int u1)]) X dX7_nextOrder_101 rfl sf_ic_1 (by decide) (fun _ => rfl) rfl (fun y20 hy20 => ?_)
        have h := h y20 hy20
        refine sf_goto (tgt := 76) X dX7_nextOrder_104 rfl ?_
        refine sf_loc (lv' := [(0, .ref (q 0)), (1, .int u0), (2, .int u1), (3, .int y20)]) [1, 2, 3, 0] rfl ?_
        exact h
  | (_ + 4), _ => exact trivial
