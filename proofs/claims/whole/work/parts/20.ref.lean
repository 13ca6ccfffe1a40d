def R_X7_isPlace (σ : sf_St) (u0 : Int32) (r : Int32) (τ : sf_St) : Prop :=
  if u0 < (-1000 : Int32) then (r = (0 : Int32) ∧ τ = σ) else (if (1000 : Int32) < u0 then (r = (0 : Int32) ∧ τ = σ) else (r = (1 : Int32) ∧ τ = σ))
set_option maxHeartbeats 4000000 in
set_option maxRecDepth 100000 in
theorem c_X7_isPlace {l : Launch} {D : va_G} {q : Nat → Nat} {dA : Nat → ClassId}  (hq : sf_inj q KM) {σ τ : sf_St} {u0 : Int32} {r : Int32} (h : R_X7_isPlace σ u0 r τ) : sf_Mi l yX7_isPlace wsX7_isPlace ({ frames := 0, cells := 0, slots := 0, locals := 0 }) D vwCl q dA KM sf_EM [.int u0] σ r τ := by
  refine sf_meti (cc := cX7_isPlace) (maxL := 1) (ret := (some .boolean)) (own := RX7) (by decide +kernel) rfl rfl hq sf_EMk (Nat.le_of_ble_eq_true rfl) ?_
  intro p e s m args below meth c X
  unfold R_X7_isPlace at h
  refine sf_loc (lv' := [(0, .int u0)]) [0] rfl ?_
  refine sf_iload_n (i := 0) (j := 0) X dX7_isPlace_0 rfl rfl rfl ?_
  refine sf_sipush (v := (-1000)) X dX7_isPlace_1 sf_sc_m1000 rfl ?_
  refine sf_icmp_lt (tgt := 18) X dX7_isPlace_4 rfl rfl (fun c1 => ?_) (fun c1 => ?_)
  · have h := sf_ift c1 h
    refine sf_iconst (v := 0) X dX7_isPlace_18 sf_ic_0 rfl ?_
    exact sf_retz X h rfl dX7_isPlace_19
  · have h := sf_iff c1 h
    refine sf_iload_n (i := 0) (j := 0) X dX7_isPlace_7 rfl rfl rfl ?_
    refine sf_sipush (v := 1000) X dX7_isPlace_8 sf_sc_1000 rfl ?_
    refine sf_icmp_gt (tgt := 18) X dX7_isPlace_11 rfl rfl (fun c2 => ?_) (fun c2 => ?_)
    · have h := sf_ift c2 h
      refine sf_iconst (v := 0) X dX7_isPlace_18 sf_ic_0 rfl ?_
      exact sf_retz X h rfl dX7_isPlace_19
    · have h := sf_iff c2 h
      refine sf_iconst (v := 1) X dX7_isPlace_14 sf_ic_1 rfl ?_
      refine sf_goto (tgt := 19) X dX7_isPlace_15 rfl ?_
      exact sf_retz X h rfl dX7_isPlace_19
def R_X7_atom (σ : sf_St) (u0 u1 u2 : Int32) (r : Int32) (τ : sf_St) : Prop :=
  if u0 < (0 : Int32) then (r = (-1 : Int32) ∧ τ = σ) else (if (5 : Int32) < u0 then (r = (-1 : Int32) ∧ τ = σ) else (∃ (r5 : Int32) (τ4 : sf_St), R_X7_isPlace σ u1 r5 τ4 ∧ (if r5 = (0 : Int32) then (r = (-1 : Int32) ∧ τ = τ4) else (∃ (r9 : Int32) (τ8 : sf_St), R_X7_isPlace τ4 u2 r9 τ8 ∧ (if r9 = (0 : Int32) then (r = (-1 : Int32) ∧ τ = τ8) else (if (τ8 0 0) = (7 : Int32) then (r = (-2 : Int32) ∧ τ = τ8) else (vp_in (τ8 0 0) 7 ∧ (∀ τ13 : sf_St, τ13 = sf_up τ8 1 (sf_ix (τ8 0 0)) u0 → (vp_in (τ13 0 0) 7 ∧ (∀ τ15 : sf_St, τ15 = sf_up τ13 2 (sf_ix (τ13 0 0)) u1 → (vp_in (τ15 0 0) 7 ∧ (∀ τ17 : sf_St, τ17 = sf_up τ15 3 (sf_ix (τ15 0 0)) u2 → (∀ τ18 : sf_St, τ18 = sf_up τ17 0 0 ((τ17 0 0) + (1 : Int32)) → (∀ τ19 : sf_St, τ19 = sf_up τ18 0 11 (0 : Int32) → (r = ((τ19 0 0) - (1 : Int32)) ∧ τ = τ19)))))))))))))))
set_option maxHeartbeats 4000000 in
set_option maxRecDepth 100000 in
theorem c_X7_atom {l : Launch} {D : va_G} {q : Nat → Nat} {dA : Nat → ClassId}  (hq : sf_inj q KM) {σ τ : sf_St} {u0 u1 u2 : Int32} {r : Int32} (h : R_X7_atom σ u0 u1 u2 r τ) : sf_Mi l yX7_atom wsX7_atom ({ frames := 1, cells := 0, slots := 0, locals := 20 }) D vwCl q dA KM sf_EM [.ref (q 0), .int u0, .int u1, .int u2] σ r τ := by
  refine sf_meti (cc := cX7_atom) (maxL := 4) (ret := (some .int)) (own := RX7) (by decide +kernel) rfl rfl hq sf_EMk (Nat.le_of_ble_eq_true rfl) ?_
  intro p e s m args below meth c X
  unfold R_X7_atom at h
  refine sf_loc (lv' := [(0, .ref (q 0)), (1, .int u0), (2, .int u1), (3, .int u2)]) [0, 1, 2, 3] rfl ?_
  refine sf_iload_n (i := 1) (j := 1) X dX7_atom_0 rfl rfl rfl ?_
  refine sf_if_lt (tgt := 23) X dX7_atom_1 rfl rfl (fun c1 => ?_) (fun c1 => ?_)
  · have h := sf_ift c1 h
    refine sf_iconst (v := (-1)) X dX7_atom_23 sf_ic_m1 rfl ?_
    exact sf_reti X h dX7_atom_24
  · have h := sf_iff c1 h
    refine sf_iload_n (i := 1) (j := 1) X dX7_atom_4 rfl rfl rfl ?_
    refine sf_iconst (v := 5) X dX7_atom_5 sf_ic_5 rfl ?_
    refine sf_icmp_gt (tgt := 23) X dX7_atom_6 rfl rfl (fun c2 => ?_) (fun c2 => ?_)
    · have h := sf_ift c2 h
      refine sf_iconst (v := (-1)) X dX7_atom_23 sf_ic_m1 rfl ?_
      exact sf_reti X h dX7_atom_24
    · have h := sf_iff c2 h
      refine sf_iload_n (i := 2) (j := 2) X dX7_atom_9 rfl rfl rfl ?_
      obtain ⟨r5, τ4, hR3, h⟩ := h
      refine sf_callSi (As := [.int u1]) (rest := []) X (c_X7_isPlace hq hR3) (va_cwS 1 X.1.2.2.2.2 (sf_gS tw_705 tw_706 tw_48 tw_707) rfl rfl rfl hd_X7_isPlace ⟨Nat.le_of_ble_eq_true rfl, Nat.le_of_ble_eq_true rfl⟩) rfl rfl (Nat.le_of_ble_eq_true rfl) dX7_atom_10 rfl ?_
      refine sf_if_eq (tgt := 23) X dX7_atom_13 rfl rfl (fun c6 => ?_) (fun c6 => ?_)
      · have h := sf_ift c6 h
        refine sf_iconst (v := (-1)) X dX7_atom_23 sf_ic_m1 rfl ?_
        exact sf_reti X h dX7_atom_24
      · have h := sf_iff c6 h
        refine sf_iload_n (i := 3) (j := 3) X dX7_atom_16 rfl rfl rfl ?_
        obtain ⟨r9, τ8, hR7, h⟩ := h
        refine sf_callSi (As := [.int u2]) (rest := []) X (c_X7_isPlace hq hR7) (va_cwS 1 X.1.2.2.2.2 (sf_gS tw_705 tw_706 tw_48 tw_707) rfl rfl rfl hd_X7_isPlace ⟨Nat.le_of_ble_eq_true rfl, Nat.le_of_ble_eq_true rfl⟩) rfl rfl (Nat.le_of_ble_eq_true rfl) dX7_atom_17 rfl ?_
        refine sf_if_ne (tgt := 25) X dX7_atom_20 rfl rfl (fun c10 => ?_) (fun c10 => ?_)
        · have h := sf_iff c10 h
          refine sf_aload_n (i := 0) (j := 0) X dX7_atom_25 rfl rfl rfl ?_
          refine sf_getI (C := RX7) (T := TX7) (N := 23) (ci := 7) (j := 0) X (fun w h => sf_memc (inX7 w h)) rfl rfl (by decide) (X.1.2.2.2.2 _ (sf_memc tw_631)) (fun _ h9 => h9) rfl dX7_atom_26 rfl ?_
          refine sf_bipush (v := 7) X dX7_atom_29 sf_bc_7 rfl ?_
          refine sf_icmp_ne (tgt := 37) X dX7_atom_31 rfl rfl (fun c11 => ?_) (fun c11 => ?_)
          · have h := sf_iff c11 h
            refine sf_aload_n (i := 0) (j := 0) X dX7_atom_37 rfl rfl rfl ?_
            refine sf_getR (C := RX7) (T := TX7) (N := 23) (ci := 7) (j := 1) (k' := 1) X (fun w h => sf_memc (inX7 w h)) rfl rfl (by decide) (X.1.2.2.2.2 _ (sf_memc tw_632)) (fun _ h9 => h9) rfl dX7_atom_38 rfl ?_
            refine sf_aload_n (i := 0) (j := 0) X dX7_atom_41 rfl rfl rfl ?_
            refine sf_getI (C := RX7) (T := TX7) (N := 23) (ci := 7) (j := 0) X (fun w h => sf_memc (inX7 w h)) rfl rfl (by decide) (X.1.2.2.2.2 _ (sf_memc tw_631)) (fun _ h9 => h9) rfl dX7_atom_42 rfl ?_
            refine sf_iload_n (i := 1) (j := 1) X dX7_atom_45 rfl rfl rfl ?_
            obtain ⟨b12, h⟩ := h
            refine sf_iast X rfl b12 dX7_atom_46 rfl (fun τ13 hτ13 => ?_)
            have h := h τ13 hτ13
            refine sf_aload_n (i := 0) (j := 0) X dX7_atom_47 rfl rfl rfl ?_
            refine sf_getR (C := RX7) (T := TX7) (N := 23) (ci := 7) (j := 2) (k' := 2) X (fun w h => sf_memc (inX7 w h)) rfl rfl (by decide) (X.1.2.2.2.2 _ (sf_memc tw_633)) (fun _ h9 => h9) rfl dX7_atom_48 rfl ?_
            refine sf_aload_n (i := 0) (j := 0) X dX7_atom_51 rfl rfl rfl ?_
            refine sf_getI (C := RX7) (T := TX7) (N := 23) (ci := 7) (j := 0) X (fun w h => sf_memc (inX7 w h)) rfl rfl (by decide) (X.1.2.2.2.2 _ (sf_memc tw_631)) (fun _ h9 => h9) rfl dX7_atom_52 rfl ?_
            refine sf_iload_n (i := 2) (j := 2) X dX7_atom_55 rfl rfl rfl ?_
            obtain ⟨b14, h⟩ := h
            refine sf_iast X rfl b14 dX7_atom_56 rfl (fun τ15 hτ15 => ?_)
            have h := h τ15 hτ15
            refine sf_aload_n (i := 0) (j := 0) X dX7_atom_57 rfl rfl rfl ?_
            refine sf_getR (C := RX7) (T := TX7) (N := 23) (ci := 7) (j := 3) (k' := 3) X (fun w h => sf_memc (inX7 w h)) rfl rfl (by decide) (X.1.2.2.2.2 _ (sf_memc tw_634)) (fun _ h9 => h9) rfl dX7_atom_58 rfl ?_
            refine sf_aload_n (i := 0) (j := 0) X dX7_atom_61 rfl rfl rfl ?_
            refine sf_getI (C := RX7) (T := TX7) (N := 23) (ci := 7) (j := 0) X (fun w h => sf_memc (inX7 w h)) rfl rfl (by decide) (X.1.2.2.2.2 _ (sf_memc tw_631)) (fun _ h9 => h9) rfl dX7_atom_62 rfl ?_
            refine sf_iload_n (i := 3) (j := 3) X dX7_atom_65 rfl rfl rfl ?_
            obtain ⟨b16, h⟩ := h
            refine sf_iast X rfl b16 dX7_atom_66 rfl (fun τ17 hτ17 => ?_)
            have h := h τ17 hτ17
            refine sf_aload_n (i := 0) (j := 0) X dX7_atom_67 rfl rfl rfl ?_
            refine sf_dup X dX7_atom_68 rfl rfl ?_
            refine sf_getI (C := RX7) (T := TX7) (N := 23) (ci := 7) (j := 0) X (fun w h => sf_memc (inX7 w h)) rfl rfl (by decide) (X.1.2.2.2.2 _ (sf_memc tw_631)) (fun _ h9 => h9) rfl dX7_atom_69 rfl ?_
            refine sf_iconst (v := 1) X dX7_atom_72 sf_ic_1 rfl ?_
            refine sf_iadd X dX7_atom_73 rfl ?_
            refine sf_putI (C := RX7) (T := TX7) (N := 23) (ci := 7) (j := 0) (ty := .int) X (fun w h => sf_memc (inX7 w h)) rfl rfl (by decide) (X.1.2.2.2.2 _ (sf_memc tw_631)) (fun _ h9 => h9) tyX7 tyX7_ok nmX7 rfl (by decide +kernel) rfl rfl rfl dX7_atom_74 rfl (fun τ18 hτ18 => ?_)
            have h := h τ18 hτ18
            refine sf_aload_n (i := 0) (j := 0) X dX7_atom_77 rfl rfl rfl ?_
            refine sf_iconst (v := 0) X dX7_atom_78 sf_ic_0 rfl ?_
            refine sf_putI (C := RX7) (T := TX7) (N := 23) (ci := 7) (j := 11) (ty := .boolean) X (fun w h => sf_memc (inX7 w h)) rfl rfl (by decide) (X.1.2.2.2.2 _ (sf_memc tw_642)) (fun _ h9 => h9) tyX7 tyX7_ok nmX7 rfl (by decide +kernel) rfl rfl rfl dX7_atom_79 rfl (fun τ19 hτ19 => ?_)
            have h := h τ19 hτ19
            refine sf_aload_n (i := 0) (j := 0) X dX7_atom_82 rfl rfl rfl ?_
            refine sf_getI (C := RX7) (T := TX7) (N := 23) (ci := 7) (j := 0) X (fun w h => sf_memc (inX7 w h)) rfl rfl (by decide) (X.1.2.2.2.2 _ (sf_memc tw_631)) (fun _ h9 => h9) rfl dX7_atom_83 rfl ?_
            refine sf_iconst (v := 1) X dX7_atom_86 sf_ic_1 rfl ?_
            refine sf_isub X dX7_atom_87 rfl ?_
            exact sf_reti X h dX7_atom_88
          · have h := sf_ift c11 h
            refine sf_bipush (v := (-2)) X dX7_atom_34 sf_bc_m2 rfl ?_
            exact sf_reti X h dX7_atom_36
        · have h := sf_ift c10 h
          refine sf_iconst (v := (-1)) X dX7_atom_23 sf_ic_m1 rfl ?_
          exact sf_reti X h dX7_atom_24
def R_X7_isAtom (σ : sf_St) (u0 : Int32) (r : Int32) (τ : sf_St) : Prop :=
  if u0 < (0 : Int32) then (r = (0 : Int32) ∧ τ = σ) else (if (σ 0 0) ≤ u0 then (r = (0 : Int32) ∧ τ = σ) else (r = (1 : Int32) ∧ τ = σ))
set_option maxHeartbeats 4000000 in
set_option maxRecDepth 100000 in
theorem c_X7_isAtom {l : Launch} {D : va_G} {q : Nat → Nat} {dA : Nat → ClassId}  (hq : sf_inj q KM) {σ τ : sf_St} {u0 : Int32} {r : Int32} (h : R_X7_isAtom σ u0 r τ) : sf_Mi l yX7_isAtom wsX7_isAtom ({ frames := 0, cells := 0, slots := 0, locals := 0 }) D vwCl q dA KM sf_EM [.ref (q 0), .int u0] σ r τ := by
  refine sf_meti (cc := cX7_isAtom) (maxL := 2) (ret := (some .boolean)) (own := RX7) (by decide +kernel) rfl rfl hq sf_EMk (Nat.le_of_ble_eq_true rfl) ?_
  intro p e s m args below meth c X
  unfold R_X7_isAtom at h
  refine sf_loc (lv' := [(0, .ref (q 0)), (1, .int u0)]) [0, 1] rfl ?_
  refine sf_iload_n (i := 1) (j := 1) X dX7_isAtom_0 rfl rfl rfl ?_
  refine sf_if_lt (tgt := 16) X dX7_isAtom_1 rfl rfl (fun c1 => ?_) (fun c1 => ?_)
  · have h := sf_ift c1 h
    refine sf_iconst (v := 0) X dX7_isAtom_16 sf_ic_0 rfl ?_
    exact sf_retz X h rfl dX7_isAtom_17
  · have h := sf_iff c1 h
    refine sf_iload_n (i := 1) (j := 1) X dX7_isAtom_4 rfl rfl rfl ?_
    refine sf_aload_n (i := 0) (j := 0) X dX7_isAtom_5 rfl rfl rfl ?_
    refine sf_getI (C := RX7) (T := TX7) (N := 23) (ci := 7) (j := 0) X (fun w h => sf_memc (inX7 w h)) rfl rfl (by decide) (X.1.2.2.2.2 _ (sf_memc tw_631)) (fun _ h9 => h9) rfl dX7_isAtom_6 rfl ?_
    refine sf_icmp_ge (tgt := 16) X dX7_isAtom_9 rfl rfl (fun c2 => ?_) (fun c2 => ?_)
    · have h := sf_ift c2 h
      refine sf_iconst (v := 0) X dX7_isAtom_16 sf_ic_0 rfl ?_
      exact sf_retz X h rfl dX7_isAtom_17
    · have h := sf_iff c2 h
      refine sf_iconst (v := 1) X dX7_isAtom_12 sf_ic_1 rfl ?_
      refine sf_goto (tgt := 17) X dX7_isAtom_13 rfl ?_
      exact sf_retz X h rfl dX7_isAtom_17
def tr_R_X7_bondOf_0 (Pr : Nat → sf_St → Int32 → Int32 → Int32 → Int32 → Prop) (r : Int32) (τ : sf_St) (σ : sf_St) (u0 u1 u2 u3 : Int32) : Prop :=
  Pr 1 σ u0 u1 (-1 : Int32) (0 : Int32)
def tr_R_X7_bondOf_1 (Pr : Nat → sf_St → Int32 → Int32 → Int32 → Int32 → Prop) (r : Int32) (τ : sf_St) (σ : sf_St) (u0 u1 u2 u3 : Int32) : Prop :=
  if (σ 0 4) ≤ u3 then (r = u2 ∧ τ = σ) else (vp_in u3 9 ∧ (if (σ 4 (sf_ix u3)) = u0 then (vp_in u3 9 ∧ (if (σ 5 (sf_ix u3)) = u1 then (∀ y13 : Int32, y13 = u3 + (1 : Int32) → (Pr 1 σ u0 u1 u3 y13)) else (vp_in u3 9 ∧ (if (σ 4 (sf_ix u3)) = u1 then (vp_in u3 9 ∧ (if (σ 5 (sf_ix u3)) = u0 then (∀ y20 : Int32, y20 = u3 + (1 : Int32) → (Pr 1 σ u0 u1 u3 y20)) else (∀ y19 : Int32, y19 = u3 + (1 : Int32) → (Pr 1 σ u0 u1 u2 y19)))) else (∀ y16 : Int32, y16 = u3 + (1 : Int32) → (Pr 1 σ u0 u1 u2 y16)))))) else (vp_in u3 9 ∧ (if (σ 4 (sf_ix u3)) = u1 then (vp_in u3 9 ∧ (if (σ 5 (sf_ix u3)) = u0 then (∀ y10 : Int32, y10 = u3 + (1 : Int32) → (Pr 1 σ u0 u1 u3 y10)) else (∀ y9 : Int32, y9 = u3 + (1 : Int32) → (Pr 1 σ u0 u1 u2 y9)))) else (∀ y6 : Int32, y6 = u3 + (1 : Int32) → (Pr 1 σ u0 u1 u2 y6))))))
def fn_R_X7_bondOf (Pr : Nat → sf_St → Int32 → Int32 → Int32 → Int32 → Prop) (r : Int32) (τ : sf_St) (t : Nat) (σ : sf_St) (u0 u1 u2 u3 : Int32) : Prop := match t with
  | 0 => tr_R_X7_bondOf_0 Pr r τ σ u0 u1 u2 u3
  | 1 => tr_R_X7_bondOf_1 Pr r τ σ u0 u1 u2 u3
  | _ => False
def Rn_R_X7_bondOf (t : Nat) (σ : sf_St) (u0 u1 u2 u3 : Int32) (r : Int32) (τ : sf_St) : Prop := ∀ Pr : Nat → sf_St → Int32 → Int32 → Int32 → Int32 → Prop, (∀ (t : Nat) (σ : sf_St) (u0 u1 u2 u3 : Int32), fn_R_X7_bondOf Pr r τ t σ u0 u1 u2 u3 → Pr t σ u0 u1 u2 u3) → Pr t σ u0 u1 u2 u3
def R_X7_bondOf (σ : sf_St) (u0 u1 : Int32) (r : Int32) (τ : sf_St) : Prop := Rn_R_X7_bondOf 0 σ u0 u1 0 0 r τ
theorem fe_R_X7_bondOf_0 {Pr : Nat → sf_St → Int32 → Int32 → Int32 → Int32 → Prop} {r : Int32} {τ σ : sf_St} {u0 u1 u2 u3 : Int32} (h : fn_R_X7_bondOf Pr r τ 0 σ u0 u1 u2 u3) : tr_R_X7_bondOf_0 Pr r τ σ u0 u1 u2 u3 := h
theorem mo_R_X7_bondOf_0 {Pr Pr' : Nat → sf_St → Int32 → Int32 → Int32 → Int32 → Prop} {r : Int32} {τ σ : sf_St} {u0 u1 u2 u3 : Int32} (hP : ∀ (t : Nat) (σ : sf_St) (u0 u1 u2 u3 : Int32), Pr t σ u0 u1 u2 u3 → Pr' t σ u0 u1 u2 u3) (h : tr_R_X7_bondOf_0 Pr r τ σ u0 u1 u2 u3) : tr_R_X7_bondOf_0 Pr' r τ σ u0 u1 u2 u3 := by
  unfold tr_R_X7_bondOf_0 at h ⊢
  exact hP _ _ _ _ _ _ h
theorem ru_R_X7_bondOf_0 {r : Int32} {τ σ : sf_St} {u0 u1 u2 u3 : Int32} (h : tr_R_X7_bondOf_0 (fun t σ u0 u1 u2 u3 => Rn_R_X7_bondOf t σ u0 u1 u2 u3 r τ) r τ σ u0 u1 u2 u3) : Rn_R_X7_bondOf 0 σ u0 u1 u2 u3 r τ := fun Pr hP => hP 0 σ u0 u1 u2 u3 (mo_R_X7_bondOf_0 (fun _ _ _ _ _ _ h => h Pr hP) h)
theorem fe_R_X7_bondOf_1 {Pr : Nat → sf_St → Int32 → Int32 → Int32 → Int32 → Prop} {r : Int32} {τ σ : sf_St} {u0 u1 u2 u3 : Int32} (h : fn_R_X7_bondOf Pr r τ 1 σ u0 u1 u2 u3) : tr_R_X7_bondOf_1 Pr r τ σ u0 u1 u2 u3 := h
theorem mo_R_X7_bondOf_1 {Pr Pr' : Nat → sf_St → Int32 → Int32 → Int32 → Int32 → Prop} {r : Int32} {τ σ : sf_St} {u0 u1 u2 u3 : Int32} (hP : ∀ (t : Nat) (σ : sf_St) (u0 u1 u2 u3 : Int32), Pr t σ u0 u1 u2 u3 → Pr' t σ u0 u1 u2 u3) (h : tr_R_X7_bondOf_1 Pr r τ σ u0 u1 u2 u3) : tr_R_X7_bondOf_1 Pr' r τ σ u0 u1 u2 u3 := by
  unfold tr_R_X7_bondOf_1 at h ⊢
  refine sf_mif (fun h => ?_) (fun h => ?_) h
  · exact h
  · refine And.imp id (fun h => ?_) h
    refine sf_mif (fun h => ?_) (fun h => ?_) h
    · refine And.imp id (fun h => ?_) h
      refine sf_mif (fun h => ?_) (fun h => ?_) h
      · intro y13 hy13
        have h := h y13 hy13
        exact hP _ _ _ _ _ _ h
      · refine And.imp id (fun h => ?_) h
        refine sf_mif (fun h => ?_) (fun h => ?_) h
        · refine And.imp id (fun h => ?_) h
          refine sf_mif (fun h => ?_) (fun h => ?_) h
          · intro y20 hy20
            have h := h y20 hy20
            exact hP _ _ _ _ _ _ h
          · intro y19 hy19
            have h := h y19 hy19
            exact hP _ _ _ _ _ _ h
        · intro y16 hy16
          have h := h y16 hy16
          exact hP _ _ _ _ _ _ h
    · refine And.imp id (fun h => ?_) h
      refine sf_mif (fun h => ?_) (fun h => ?_) h
      · refine And.imp id (fun h => ?_) h
        refine sf_mif (fun h => ?_) (fun h => ?_) h
        · intro y10 hy10
          have h := h y10 hy10
          exact hP _ _ _ _ _ _ h
        · intro y9 hy9
          have h := h y9 hy9
          exact hP _ _ _ _ _ _ h
      · intro y6 hy6
        have h := h y6 hy6
        exact hP _ _ _ _ _ _ h
theorem ru_R_X7_bondOf_1 {r : Int32} {τ σ : sf_St} {u0 u1 u2 u3 : Int32} (h : tr_R_X7_bondOf_1 (fun t σ u0 u1 u2 u3 => Rn_R_X7_bondOf t σ u0 u1 u2 u3 r τ) r τ σ u0 u1 u2 u3) : Rn_R_X7_bondOf 1 σ u0 u1 u2 u3 r τ := fun Pr hP => hP 1 σ u0 u1 u2 u3 (mo_R_X7_bondOf_1 (fun _ _ _ _ _ _ h => h Pr hP) h)
set_option maxHeartbeats 4000000 in
set_option maxRecDepth 100000 in
theorem c_X7_bondOf {l : Launch} {D : va_G} {q : Nat → Nat} {dA : Nat → ClassId}  (hq : sf_inj q KM) {σ τ : sf_St} {u0 u1 : Int32} {r : Int32} (h : R_X7_bondOf σ u0 u1 r τ) : sf_Mi l yX7_bondOf wsX7_bondOf ({ frames := 0, cells := 0, slots := 0, locals := 0 }) D vwCl q dA KM sf_EM [.ref (q 0), .int u0, .int u1] σ r τ := by
  refine sf_meti (cc := cX7_bondOf) (maxL := 5) (ret := (some .int)) (own := RX7) (by decide +kernel) rfl rfl hq sf_EMk (Nat.le_of_ble_eq_true rfl) ?_
  intro p e s m args below meth c X
  refine sf_loc (lv' := [(0, .ref (q 0)), (1, .int u0), (2, .int u1)]) [0, 1, 2] rfl ?_
  refine h (fun t σ u0 u1 u2 u3 => match t with
    | 0 => sf_G p l e (headSpec wsX7_bondOf ({ frames := 0, cells := 0, slots := 0, locals := 0 })).room s m args below meth c (sf_Qi D vwCl q dA KM sf_EM below args s r τ) 5 D vwCl q dA KM σ 0 [(0, .ref (q 0)), (1, .int u0), (2, .int u1)] []
    | 1 => sf_G p l e (headSpec wsX7_bondOf ({ frames := 0, cells := 0, slots := 0, locals := 0 })).room s m args below meth c (sf_Qi D vwCl q dA KM sf_EM below args s r τ) 5 D vwCl q dA KM σ 5 [(0, .ref (q 0)), (1, .int u0), (2, .int u1), (3, .int u2), (4, .int u3)] []
    | _ => True) ?_
  intro t σ u0 u1 u2 u3 h
  match t, h with
  | 0, h =>
      replace h := fe_R_X7_bondOf_0 h
      unfold tr_R_X7_bondOf_0 at h
      show sf_G p l e (headSpec wsX7_bondOf ({ frames := 0, cells := 0, slots := 0, locals := 0 })).room s m args below meth c (sf_Qi D vwCl q dA KM sf_EM below args s r τ) 5 D vwCl q dA KM σ 0 [(0, .ref (q 0)), (1, .int u0), (2, .int u1)] []
      refine sf_iconst (v := (-1)) X dX7_bondOf_0 sf_ic_m1 rfl ?_
      refine sf_istore_n (i := 3) (lv' := [(3, .int (-1 : Int32)), (0, .ref (q 0)), (1, .int u0), (2, .int u1)]) X dX7_bondOf_1 rfl (by decide) rfl rfl ?_
      refine sf_iconst (v := 0) X dX7_bondOf_2 sf_ic_0 rfl ?_
      refine sf_istore (i := 4) (lv' := [(4, .int (0 : Int32)), (3, .int (-1 : Int32)), (0, .ref (q 0)), (1, .int u0), (2, .int u1)]) X dX7_bondOf_3 (by decide) rfl rfl ?_
      refine sf_loc (lv' := [(0, .ref (q 0)), (1, .int u0), (2, .int u1), (3, .int (-1 : Int32)), (4, .int (0 : Int32))]) [2, 3, 4, 1, 0] rfl ?_
      exact h
  | 1, h =>
      replace h := fe_R_X7_bondOf_1 h
      unfold tr_R_X7_bondOf_1 at h
      show sf_G p l e (headSpec wsX7_bondOf ({ frames := 0, cells := 0, slots := 0, locals := 0 })).room s m args below meth c (sf_Qi D vwCl q dA KM sf_EM below args s r τ) 5 D vwCl q dA KM σ 5 [(0, .ref (q 0)), (1, .int u0), (2, .int u1), (3, .int u2), (4, .int u3)] []
      refine sf_iload (i := 4) (j := 4) X dX7_bondOf_5 rfl rfl ?_
      refine sf_aload_n (i := 0) (j := 0) X dX7_bondOf_7 rfl rfl rfl ?_
      refine sf_getI (C := RX7) (T := TX7) (N := 23) (ci := 7) (j := 4) X (fun w h => sf_memc (inX7 w h)) rfl rfl (by decide) (X.1.2.2.2.2 _ (sf_memc tw_635)) (fun _ h9 => h9) rfl dX7_bondOf_8 rfl ?_
      refine sf_icmp_ge (tgt := 71) X dX7_bondOf_11 rfl rfl (fun c1 => ?_) (fun c1 => ?_)
      · have h := sf_ift c1 h
        refine sf_iload_n (i := 3) (j := 3) X dX7_bondOf_71 rfl rfl rfl ?_
        exact sf_reti X h dX7_bondOf_72
      · have h := sf_iff c1 h
        refine sf_aload_n (i := 0) (j := 0) X dX7_bondOf_14 rfl rfl rfl ?_
        refine sf_getR (C := RX7) (T := TX7) (N := 23) (ci := 7) (j := 5) (k' := 4) X (fun w h => sf_memc (inX7 w h)) rfl rfl (by decide) (X.1.2.2.2.2 _ (sf_memc tw_636)) (fun _ h9 => h9) rfl dX7_bondOf_15 rfl ?_
        refine sf_iload (i := 4) (j := 4) X dX7_bondOf_18 rfl rfl ?_
        obtain ⟨b2, h⟩ := h
        refine sf_iald X rfl b2 dX7_bondOf_20 rfl ?_
        refine sf_iload_n (i := 1) (j := 1) X dX7_bondOf_21 rfl rfl rfl ?_
        refine sf_icmp_ne (tgt := 36) X dX7_bondOf_22 rfl rfl (fun c3 => ?_) (fun c3 => ?_)
        · have h := sf_iff c3 h
          refine sf_aload_n (i := 0) (j := 0) X dX7_bondOf_36 rfl rfl rfl ?_
          refine sf_getR (C := RX7) (T := TX7) (N := 23) (ci := 7) (j := 5) (k' := 4) X (fun w h => sf_memc (inX7 w h)) rfl rfl (by decide) (X.1.2.2.2.2 _ (sf_memc tw_636)) (fun _ h9 => h9) rfl dX7_bondOf_37 rfl ?_
          refine sf_iload (i := 4) (j := 4) X dX7_bondOf_40 rfl rfl ?_
          obtain ⟨b4, h⟩ := h
          refine sf_iald X rfl b4 dX7_bondOf_42 rfl ?_
          refine sf_iload_n (i := 2) (j := 2) X dX7_bondOf_43 rfl rfl rfl ?_
          refine sf_icmp_ne (tgt := 63) X dX7_bondOf_44 rfl rfl (fun c5 => ?_) (fun c5 => ?_)
          · have h := sf_iff c5 h
            refine sf_iload_n (i := 3) (j := 3) X dX7_bondOf_63 rfl rfl rfl ?_
            refine sf_istore_n (i := 3) (lv' := [(3, .int u2), (0, .ref (q 0)), (1, .int u0), (2, .int u1), (4, .int u3)]) X dX7_bondOf_64 rfl (by decide) rfl rfl ?_
            refine sf_iinc (i := 4) (j := 4) (d := 1) (lv' := fun y6 => [(4, .int y6), (3, .int u2), (0, .ref (q 0)), (1, .int u0), (2, .int u1)]) X dX7_bondOf_65 rfl sf_ic_1 (by decide) (fun _ => rfl) rfl (fun y6 hy6 => ?_)
            have h := h y6 hy6
            refine sf_goto (tgt := 5) X dX7_bondOf_68 rfl ?_
            refine sf_loc (lv' := [(0, .ref (q 0)), (1, .int u0), (2, .int u1), (3, .int u2), (4, .int y6)]) [2, 3, 4, 1, 0] rfl ?_
            exact h
          · have h := sf_ift c5 h
            refine sf_aload_n (i := 0) (j := 0) X dX7_bondOf_47 rfl rfl rfl ?_
            refine sf_getR (C := RX7) (T := TX7) (N := 23) (ci := 7) (j := 6) (k' := 5) X (fun w h => sf_memc (inX7 w h)) rfl rfl (by decide) (X.1.2.2.2.2 _ (sf_memc tw_637)) (fun _ h9 => h9) rfl dX7_bondOf_48 rfl ?_
            refine sf_iload (i := 4) (j := 4) X dX7_bondOf_51 rfl rfl ?_
            obtain ⟨b7, h⟩ := h
            refine sf_iald X rfl b7 dX7_bondOf_53 rfl ?_
            refine sf_iload_n (i := 1) (j := 1) X dX7_bondOf_54 rfl rfl rfl ?_
            refine sf_icmp_ne (tgt := 63) X dX7_bondOf_55 rfl rfl (fun c8 => ?_) (fun c8 => ?_)
            · have h := sf_iff c8 h
              refine sf_iload_n (i := 3) (j := 3) X dX7_bondOf_63 rfl rfl rfl ?_
              refine sf_istore_n (i := 3) (lv' := [(3, .int u2), (0, .ref (q 0)), (1, .int u0), (2, .int u1), (4, .int u3)]) X dX7_bondOf_64 rfl (by decide) rfl rfl ?_
              refine sf_iinc (i := 4) (j := 4) (d := 1) (lv' := fun y9 => [(4, .int y9), (3, .int u2), (0, .ref (q 0)), (1, .int u0), (2, .int u1)]) X dX7_bondOf_65 rfl sf_ic_1 (by decide) (fun _ => rfl) rfl (fun y9 hy9 => ?_)
              have h := h y9 hy9
              refine sf_goto (tgt := 5) X dX7_bondOf_68 rfl ?_
              refine sf_loc (lv' := [(0, .ref (q 0)), (1, .int u0), (2, .int u1), (3, .int u2), (4, .int y9)]) [2, 3, 4, 1, 0] rfl ?_
              exact h
            · have h := sf_ift c8 h
              refine sf_iload (i := 4) (j := 4) X dX7_bondOf_58 rfl rfl ?_
              refine sf_goto (tgt := 64) X dX7_bondOf_60 rfl ?_
              refine sf_istore_n (i := 3) (lv' := [(3, .int u3), (0, .ref (q 0)), (1, .int u0), (2, .int u1), (4, .int u3)]) X dX7_bondOf_64 rfl (by decide) rfl rfl ?_
              refine sf_iinc (i := 4) (j := 4) (d := 1) (lv' := fun y10 => [(4, .int y10), (3, .int u3), (0, .ref (q 0)), (1, .int u0), (2, .int u1)]) X dX7_bondOf_65 rfl sf_ic_1 (by decide) (fun _ => rfl) rfl (fun y10 hy10 => ?_)
              have h := h y10 hy10
              refine sf_goto (tgt := 5) X dX7_bondOf_68 rfl ?_
              refine sf_loc (lv' := [(0, .ref (q 0)), (1, .int u0), (2, .int u1), (3, .int u3), (4, .int y10)]) [2, 3, 4, 1, 0] rfl ?_
              exact h
        · have h := sf_ift c3 h
          refine sf_aload_n (i := 0) (j := 0) X dX7_bondOf_25 rfl rfl rfl ?_
          refine sf_getR (C := RX7) (T := TX7) (N := 23) (ci := 7) (j := 6) (k' := 5) X (fun w h => sf_memc (inX7 w h)) rfl rfl (by decide) (X.1.2.2.2.2 _ (sf_memc tw_637)) (fun _ h9 => h9) rfl dX7_bondOf_26 rfl ?_
          refine sf_iload (i := 4) (j := 4) X dX7_bondOf_29 rfl rfl ?_
          obtain ⟨b11, h⟩ := h
          refine sf_iald X rfl b11 dX7_bondOf_31 rfl ?_
          refine sf_iload_n (i := 2) (j := 2) X dX7_bondOf_32 rfl rfl rfl ?_
          refine sf_icmp_eq (tgt := 58) X dX7_bondOf_33 rfl rfl (fun c12 => ?_) (fun c12 => ?_)
          · have h := sf_ift c12 h
            refine sf_iload (i := 4) (j := 4) X dX7_bondOf_58 rfl rfl ?_
            refine sf_goto (tgt := 64) X dX7_bondOf_60 rfl ?_
            refine sf_istore_n (i := 3) (lv' := [(3, .int u3), (0, .ref (q 0)), (1, .int u0), (2, .int u1), (4, .int u3)]) X dX7_bondOf_64 rfl (by decide) rfl rfl ?_
            refine sf_iinc (i := 4) (j := 4) (d := 1) (lv' := fun y13 => [(4, .int y13), (3, .int u3), (0, .ref (q 0)), (1, .int u0), (2, .int u1)]) X dX7_bondOf_65 rfl sf_ic_1 (by decide) (fun _ => rfl) rfl (fun y13 hy13 => ?_)
            have h := h y13 hy13
            refine sf_goto (tgt := 5) X dX7_bondOf_68 rfl ?_
            refine sf_loc (lv' := [(0, .ref (q 0)), (1, .int u0), (2, .int u1), (3, .int u3), (4, .int y13)]) [2, 3, 4, 1, 0] rfl ?_
            exact h
          · have h := sf_iff c12 h
            refine sf_aload_n (i := 0) (j := 0) X dX7_bondOf_36 rfl rfl rfl ?_
            refine sf_getR (C := RX7) (T := TX7) (N := 23) (ci := 7) (j := 5) (k' := 4) X (fun w h => sf_memc (inX7 w h)) rfl rfl (by decide) (X.1.2.2.2.2 _ (sf_memc tw_636)) (fun _ h9 => h9) rfl dX7_bondOf_37 rfl ?_
            refine sf_iload (i := 4) (j := 4) X dX7_bondOf_40 rfl rfl ?_
            obtain ⟨b14, h⟩ := h
            refine sf_iald X rfl b14 dX7_bondOf_42 rfl ?_
            refine sf_iload_n (i := 2) (j := 2) X dX7_bondOf_43 rfl rfl rfl ?_
            refine sf_icmp_ne (tgt := 63) X dX7_bondOf_44 rfl rfl (fun c15 => ?_) (fun c15 => ?_)
            · have h := sf_iff c15 h
              refine sf_iload_n (i := 3) (j := 3) X dX7_bondOf_63 rfl rfl rfl ?_
              refine sf_istore_n (i := 3) (lv' := [(3, .int u2), (0, .ref (q 0)), (1, .int u0), (2, .int u1), (4, .int u3)]) X dX7_bondOf_64 rfl (by decide) rfl rfl ?_
              refine sf_iinc (i := 4) (j := 4) (d := 1) (lv' := fun y16 => [(4, .int y16), (3, .int u2), (0, .ref (q 0)), (1, .int u0), (2, .int u1)]) X dX7_bondOf_65 rfl sf_ic_1 (by decide) (fun _ => rfl) rfl (fun y16 hy16 => ?_)
              have h := h y16 hy16
              refine sf_goto (tgt := 5) X dX7_bondOf_68 rfl ?_
              refine sf_loc (lv' := [(0, .ref (q 0)), (1, .int u0), (2, .int u1), (3, .int u2), (4, .int y16)]) [2, 3, 4, 1, 0] rfl ?_
              exact h
            · have h := sf_ift c15 h
              refine sf_aload_n (i := 0) (j := 0) X dX7_bondOf_47 rfl rfl rfl ?_
              refine sf_getR (C := RX7) (T := TX7) (N := 23) (ci := 7) (j := 6) (k' := 5) X (fun w h => sf_memc (inX7 w h)) rfl rfl (by decide) (X.1.2.2.2.2 _ (sf_memc tw_637)) (fun _ h9 => h9) rfl dX7_bondOf_48 rfl ?_
              refine sf_iload (i := 4) (j := 4) X dX7_bondOf_51 rfl rfl ?_
              obtain ⟨b17, h⟩ := h
              refine sf_iald X rfl b17 dX7_bondOf_53 rfl ?_
              refine sf_iload_n (i := 1) (j := 1) X dX7_bondOf_54 rfl rfl rfl ?_
              refine sf_icmp_ne (tgt := 63) X dX7_bondOf_55 rfl rfl (fun c18 => ?_) (fun c18 => ?_)
              · have h := sf_iff c18 h
                refine sf_iload_n (i := 3) (j := 3) X dX7_bondOf_63 rfl rfl rfl ?_
                refine sf_istore_n (i := 3) (lv' := [(3, .int u2), (0, .ref (q 0)), (1, .int u0), (2, .int u1), (4, .int u3)]) X dX7_bondOf_64 rfl (by decide) rfl rfl ?_
                refine sf_iinc (i := 4) (j := 4) (d := 1) (lv' := fun y19 => [(4, .int y19), (3, .int u2), (0, .ref (q 0)), (1, .int u0), (2, .int u1)]) X dX7_bondOf_65 rfl sf_ic_1 (by decide) (fun _ => rfl) rfl (fun y19 hy19 => ?_)
                have h := h y19 hy19
                refine sf_goto (tgt := 5) X dX7_bondOf_68 rfl ?_
                refine sf_loc (lv' := [(0, .ref (q 0)), (1, .int u0), (2, .int u1), (3, .int u2), (4, .int y19)]) [2, 3, 4, 1, 0] rfl ?_
                exact h
              · have h := sf_ift c18 h
                refine sf_iload (i := 4) (j := 4) X dX7_bondOf_58 rfl rfl ?_
                refine sf_goto (tgt := 64) X dX7_bondOf_60 rfl ?_
                refine sf_istore_n (i := 3) (lv' := [(3, .int u3), (0, .ref (q 0)), (1, .int u0), (2, .int u1), (4, .int u3)]) X dX7_bondOf_64 rfl (by decide) rfl rfl ?_
                refine sf_iinc (i := 4) (j := 4) (d := 1) (lv' := fun y20 => [(4, .int y20), (3, .int u3), (0, .ref (q 0)), (1, .int u0), (2, .int u1)]) X dX7_bondOf_65 rfl sf_ic_1 (by decide) (fun _ => rfl) rfl (fun y20 hy20 => ?_)
                have h := h y20 hy20
                refine sf_goto (tgt := 5) X dX7_bondOf_68 rfl ?_
                refine sf_loc (lv' := [(0, .ref (q 0)), (1, .int u0), (2, .int u1), (3, .int u3), (4, .int y20)]) [2, 3, 4, 1, 0] rfl ?_
                exact h
  | (_ + 2), _ => exact trivial
def R_X7_valence (σ : sf_St) (u0 : Int32) (r : Int32) (τ : sf_St) : Prop :=
  if u0 = (0 : Int32) then (r = (4 : Int32) ∧ τ = σ) else (if u0 = (1 : Int32) then (r = (3 : Int32) ∧ τ = σ) else (if u0 = (2 : Int32) then (r = (2 : Int32) ∧ τ = σ) else (if u0 = (5 : Int32) then (r = (2 : Int32) ∧ τ = σ) else (r = (1 : Int32) ∧ τ = σ))))
set_option maxHeartbeats 4000000 in
set_option maxRecDepth 100000 in
theorem c_X7_valence {l : Launch} {D : va_G} {q : Nat → Nat} {dA : Nat → ClassId}  (hq : sf_inj q KM) {σ τ : sf_St} {u0 : Int32} {r : Int32} (h : R_X7_valence σ u0 r τ) : sf_Mi l yX7_valence wsX7_valence ({ frames := 0, cells := 0, slots := 0, locals := 0 }) D vwCl q dA KM sf_EM [.int u0] σ r τ := by
  refine sf_meti (cc := cX7_valence) (maxL := 1) (ret := (some .int)) (own := RX7) (by decide +kernel) rfl rfl hq sf_EMk (Nat.le_of_ble_eq_true rfl) ?_
  intro p e s m args below meth c X
  unfold R_X7_valence at h
  refine sf_loc (lv' := [(0, .int u0)]) [0] rfl ?_
  refine sf_iload_n (i := 0) (j := 0) X dX7_valence_0 rfl rfl rfl ?_
  refine sf_if_ne (tgt := 8) X dX7_valence_1 rfl rfl (fun c1 => ?_) (fun c1 => ?_)
  · have h := sf_iff c1 h
    refine sf_iload_n (i := 0) (j := 0) X dX7_valence_8 rfl rfl rfl ?_
    refine sf_iconst (v := 1) X dX7_valence_9 sf_ic_1 rfl ?_
    refine sf_icmp_ne (tgt := 17) X dX7_valence_10 rfl rfl (fun c2 => ?_) (fun c2 => ?_)
    · have h := sf_iff c2 h
      refine sf_iload_n (i := 0) (j := 0) X dX7_valence_17 rfl rfl rfl ?_
      refine sf_iconst (v := 2) X dX7_valence_18 sf_ic_2 rfl ?_
      refine sf_icmp_eq (tgt := 27) X dX7_valence_19 rfl rfl (fun c3 => ?_) (fun c3 => ?_)
      · have h := sf_ift c3 h
        refine sf_iconst (v := 2) X dX7_valence_27 sf_ic_2 rfl ?_
        refine sf_goto (tgt := 32) X dX7_valence_28 rfl ?_
        exact sf_reti X h dX7_valence_32
      · have h := sf_iff c3 h
        refine sf_iload_n (i := 0) (j := 0) X dX7_valence_22 rfl rfl rfl ?_
        refine sf_iconst (v := 5) X dX7_valence_23 sf_ic_5 rfl ?_
        refine sf_icmp_ne (tgt := 31) X dX7_valence_24 rfl rfl (fun c4 => ?_) (fun c4 => ?_)
        · have h := sf_iff c4 h
          refine sf_iconst (v := 1) X dX7_valence_31 sf_ic_1 rfl ?_
          exact sf_reti X h dX7_valence_32
        · have h := sf_ift c4 h
          refine sf_iconst (v := 2) X dX7_valence_27 sf_ic_2 rfl ?_
          refine sf_goto (tgt := 32) X dX7_valence_28 rfl ?_
          exact sf_reti X h dX7_valence_32
    · have h := sf_ift c2 h
      refine sf_iconst (v := 3) X dX7_valence_13 sf_ic_3 rfl ?_
      refine sf_goto (tgt := 32) X dX7_valence_14 rfl ?_
      exact sf_reti X h dX7_valence_32
  · have h := sf_ift c1 h
    refine sf_iconst (v := 4) X dX7_valence_4 sf_ic_4 rfl ?_
    refine sf_goto (tgt := 32) X dX7_valence_5 rfl ?_
    exact sf_reti X h dX7_valence_32
def tr_R_X7_left_0 (Pr : Nat → sf_St → Int32 → Int32 → Int32 → Prop) (r : Int32) (τ : sf_St) (σ : sf_St) (u0 u1 u2 : Int32) : Prop :=
  vp_in u0 7 ∧ (∃ (r4 : Int32) (τ3 : sf_St), R_X7_valence σ (σ 1 (sf_ix u0)) r4 τ3 ∧ (Pr 1 τ3 u0 r4 (0 : Int32)))
def tr_R_X7_left_1 (Pr : Nat → sf_St → Int32 → Int32 → Int32 → Prop) (r : Int32) (τ : sf_St) (σ : sf_St) (u0 u1 u2 : Int32) : Prop :=
  if (σ 0 4) ≤ u2 then (r = u1 ∧ τ = σ) else (vp_in u2 9 ∧ (if (σ 4 (sf_ix u2)) = u0 then (vp_in u2 9 ∧ (∀ y9 : Int32, y9 = (u1 - (σ 6 (sf_ix u2))) → (∀ y10 : Int32, y10 = u2 + (1 : Int32) → (Pr 1 σ u0 y9 y10)))) else (vp_in u2 9 ∧ (if (σ 5 (sf_ix u2)) = u0 then (vp_in u2 9 ∧ (∀ y16 : Int32, y16 = (u1 - (σ 6 (sf_ix u2))) → (∀ y17 : Int32, y17 = u2 + (1 : Int32) → (Pr 1 σ u0 y16 y17)))) else (∀ y13 : Int32, y13 = (u1 - (0 : Int32)) → (∀ y14 : Int32, y14 = u2 + (1 : Int32) → (Pr 1 σ u0 y13 y14)))))))
def fn_R_X7_left (Pr : Nat → sf_St → Int32 → Int32 → Int32 → Prop) (r : Int32) (τ : sf_St) (t : Nat) (σ : sf_St) (u0 u1 u2 : Int32) : Prop := match t with
  | 0 => tr_R_X7_left_0 Pr r τ σ u0 u1 u2
  | 1 => tr_R_X7_left_1 Pr r τ σ u0 u1 u2
  | _ => False
def Rn_R_X7_left (t : Nat) (σ : sf_St) (u0 u1 u2 : Int32) (r : Int32) (τ : sf_St) : Prop := ∀ Pr : Nat → sf_St → Int32 → Int32 → Int32 → Prop, (∀ (t : Nat) (σ : sf_St) (u0 u1 u2 : Int32), fn_R_X7_left Pr r τ t σ u0 u1 u2 → Pr t σ u0 u1 u2) → Pr t σ u0 u1 u2
def R_X7_left (σ : sf_St) (u0 : Int32) (r : Int32) (τ : sf_St) : Prop := Rn_R_X7_left 0 σ u0 0 0 r τ
theorem fe_R_X7_left_0 {Pr : Nat → sf_St → Int32 → Int32 → Int32 → Prop} {r : Int32} {τ σ : sf_St} {u0 u1 u2 : Int32} (h : fn_R_X7_left Pr r τ 0 σ u0 u1 u2) : tr_R_X7_left_0 Pr r τ σ u0 u1 u2 := h
theorem mo_R_X7_left_0 {Pr Pr' : Nat → sf_St → Int32 → Int32 → Int32 → Prop} {r : Int32} {τ σ : sf_St} {u0 u1 u2 : Int32} (hP : ∀ (t : Nat) (σ : sf_St) (u0 u1 u2 : Int32), Pr t σ u0 u1 u2 → Pr' t σ u0 u1 u2) (h : tr_R_X7_left_0 Pr r τ σ u0 u1 u2) : tr_R_X7_left_0 Pr' r τ σ u0 u1 u2 := by
  unfold tr_R_X7_left_0 at h ⊢
  refine And.imp id (fun h => ?_) h
  refine Exists.imp (fun _ h => Exists.imp (fun _ h => And.imp id (fun h => ?_) h) h) h
  exact hP _ _ _ _ _ h
theorem ru_R_X7_left_0 {r : Int32} {τ σ : sf_St} {u0 u1 u2 : Int32} (h : tr_R_X7_left_0 (fun t σ u0 u1 u2 => Rn_R_X7_left t σ u0 u1 u2 r τ) r τ σ u0 u1 u2) : Rn_R_X7_left 0 σ u0 u1 u2 r τ := fun Pr hP => hP 0 σ u0 u1 u2 (mo_R_X7_left_0 (fun _ _ _ _ _ h => h Pr hP) h)
theorem fe_R_X7_left_1 {Pr : Nat → sf_St → Int32 → Int32 → Int32 → Prop} {r : Int32} {τ σ : sf_St} {u0 u1 u2 : Int32} (h : fn_R_X7_left Pr r τ 1 σ u0 u1 u2) : tr_R_X7_left_1 Pr r τ σ u0 u1 u2 := h
theorem mo_R_X7_left_1 {Pr Pr' : Nat → sf_St → Int32 → Int32 → Int32 → Prop} {r : Int32} {τ σ : sf_St} {u0 u1 u2 : Int32} (hP : ∀ (t : Nat) (σ : sf_St) (u0 u1 u2 : Int32), Pr t σ u0 u1 u2 → Pr' t σ u0 u1 u2) (h : tr_R_X7_left_1 Pr r τ σ u0 u1 u2) : tr_R_X7_left_1 Pr' r τ σ u0 u1 u2 := by
  unfold tr_R_X7_left_1 at h ⊢
  refine sf_mif (fun h => ?_) (fun h => ?_) h
  · exact h
  · refine And.imp id (fun h => ?_) h
    refine sf_mif (fun h => ?_) (fun h => ?_) h
    · refine And.imp id (fun h => ?_) h
      intro y9 hy9
      have h := h y9 hy9
      intro y10 hy10
      have h := h y10 hy10
      exact hP _ _ _ _ _ h
    · refine And.imp id (fun h => ?_) h
      refine sf_mif (fun h => ?_) (fun h => ?_) h
      · refine And.imp id (fun h => ?_) h
        intro y16 hy16
        have h := h y16 hy16
        intro y17 hy17
        have h := h y17 hy17
        exact hP _ _ _ _ _ h
      · intro y13 hy13
        have h := h y13 hy13
        intro y14 hy14
        have h := h y14 hy14
        exact hP _ _ _ _ _ h
theorem ru_R_X7_left_1 {r : Int32} {τ σ : sf_St} {u0 u1 u2 : Int32} (h : tr_R_X7_left_1 (fun t σ u0 u1 u2 => Rn_R_X7_left t σ u0 u1 u2 r τ) r τ σ u0 u1 u2) : Rn_R_X7_left 1 σ u0 u1 u2 r τ := fun Pr hP => hP 1 σ u0 u1 u2 (mo_R_X7_left_1 (fun _ _ _ _ _ h => h Pr hP) h)
set_option maxHeartbeats 4000000 in
set_option maxRecDepth 100000 in
theorem c_X7_left {l : Launch} {D : va_G} {q : Nat → Nat} {dA : Nat → ClassId}  (hq : sf_inj q KM) {σ τ : sf_St} {u0 : Int32} {r : Int32} (h : R_X7_left σ u0 r τ) : sf_Mi l yX7_left wsX7_left ({ frames := 1, cells := 0, slots := 0, locals := 20 }) D vwCl q dA KM sf_EM [.ref (q 0), .int u0] σ r τ := by
  refine sf_meti (cc := cX7_left) (maxL := 4) (ret := (some .int)) (own := RX7) (by decide +kernel) rfl rfl hq sf_EMk (Nat.le_of_ble_eq_true rfl) ?_
  intro p e s m args below meth c X
  refine sf_loc (lv' := [(0, .ref (q 0)), (1, .int u0)]) [0, 1] rfl ?_
  refine h (fun t σ u0 u1 u2 => match t with
    | 0 => sf_G p l e (headSpec wsX7_left ({ frames := 1, cells := 0, slots := 0, locals := 20 })).room s m args below meth c (sf_Qi D vwCl q dA KM sf_EM below args s r τ) 4 D vwCl q dA KM σ 0 [(0, .ref (q 0)), (1, .int u0)] []
    | 1 => sf_G p l e (headSpec wsX7_left ({ frames := 1, cells := 0, slots := 0, locals := 20 })).room s m args below meth c (sf_Qi D vwCl q dA KM sf_EM below args s r τ) 4 D vwCl q dA KM σ 12 [(0, .ref (q 0)), (1, .int u0), (2, .int u1), (3, .int u2)] []
    | _ => True) ?_
  intro t σ u0 u1 u2 h
  match t, h with
  | 0, h =>
      replace h := fe_R_X7_left_0 h
      unfold tr_R_X7_left_0 at h
      show sf_G p l e (headSpec wsX7_left ({ frames := 1, cells := 0, slots := 0, locals := 20 })).room s m args below meth c (sf_Qi D vwCl q dA KM sf_EM below args s r τ) 4 D vwCl q dA KM σ 0 [(0, .ref (q 0)), (1, .int u0)] []
      refine sf_aload_n (i := 0) (j := 0) X dX7_left_0 rfl rfl rfl ?_
      refine sf_getR (C := RX7) (T := TX7) (N := 23) (ci := 7) (j := 1) (k' := 1) X (fun w h => sf_memc (inX7 w h)) rfl rfl (by decide) (X.1.2.2.2.2 _ (sf_memc tw_632)) (fun _ h9 => h9) rfl dX7_left_1 rfl ?_
      refine sf_iload_n (i := 1) (j := 1) X dX7_left_4 rfl rfl rfl ?_
      obtain ⟨b1, h⟩ := h
      refine sf_iald X rfl b1 dX7_left_5 rfl ?_
      obtain ⟨r4, τ3, hR2, h⟩ := h
      refine sf_callSi (As := [.int (σ 1 (sf_ix u0))]) (rest := []) X (c_X7_valence hq hR2) (va_cwS 1 X.1.2.2.2.2 (sf_gS tw_724 tw_725 tw_48 tw_726) rfl rfl rfl hd_X7_valence ⟨Nat.le_of_ble_eq_true rfl, Nat.le_of_ble_eq_true rfl⟩) rfl rfl (Nat.le_of_ble_eq_true rfl) dX7_left_6 rfl ?_
      refine sf_istore_n (i := 2) (lv' := [(2, .int r4), (0, .ref (q 0)), (1, .int u0)]) X dX7_left_9 rfl (by decide) rfl rfl ?_
      refine sf_iconst (v := 0) X dX7_left_10 sf_ic_0 rfl ?_
      refine sf_istore_n (i := 3) (lv' := [(3, .int (0 : Int32)), (2, .int r4), (0, .ref (q 0)), (1, .int u0)]) X dX7_left_11 rfl (by decide) rfl rfl ?_
      refine sf_loc (lv' := [(0, .ref (q 0)), (1, .int u0), (2, .int r4), (3, .int (0 : Int32))]) [2, 3, 1, 0] rfl ?_
      exact h
  | 1, h =>
      replace h := fe_R_X7_left_1 h
      unfold tr_R_X7_left_1 at h
      show sf_G p l e (headSpec wsX7_left ({ frames := 1, cells := 0, slots := 0, locals := 20 })).room s m args below meth c (sf_Qi D vwCl q dA KM sf_EM below args s r τ) 4 D vwCl q dA KM σ 12 [(0, .ref (q 0)), (1, .int u0), (2, .int u1), (3, .int u2)] []
      refine sf_iload_n (i := 3) (j := 3) X dX7_left_12 rfl rfl rfl ?_
      refine sf_aload_n (i := 0) (j := 0) X dX7_left_13 rfl rfl rfl ?_
      refine sf_getI (C := RX7) (T := TX7) (N := 23) (ci := 7) (j := 4) X (fun w h => sf_memc (inX7 w h)) rfl rfl (by decide) (X.1.2.2.2.2 _ (sf_memc tw_635)) (fun _ h9 => h9) rfl dX7_left_14 rfl ?_
      refine sf_icmp_ge (tgt := 59) X dX7_left_17 rfl rfl (fun c5 => ?_) (fun c5 => ?_)
      · have h := sf_ift c5 h
        refine sf_iload_n (i := 2) (j := 2) X dX7_left_59 rfl rfl rfl ?_
        exact sf_reti X h dX7_left_60
      · have h := sf_iff c5 h
        refine sf_iload_n (i := 2) (j := 2) X dX7_left_20 rfl rfl rfl ?_
        refine sf_aload_n (i := 0) (j := 0) X dX7_left_21 rfl rfl rfl ?_
        refine sf_getR (C := RX7) (T := TX7) (N := 23) (ci := 7) (j := 5) (k' := 4) X (fun w h => sf_memc (inX7 w h)) rfl rfl (by decide) (X.1.2.2.2.2 _ (sf_memc tw_636)) (fun _ h9 => h9) rfl dX7_left_22 rfl ?_
        refine sf_iload_n (i := 3) (j := 3) X dX7_left_25 rfl rfl rfl ?_
        obtain ⟨b6, h⟩ := h
        refine sf_iald X rfl b6 dX7_left_26 rfl ?_
        refine sf_iload_n (i := 1) (j := 1) X dX7_left_27 rfl rfl rfl ?_
        refine sf_icmp_eq (tgt := 41) X dX7_left_28 rfl rfl (fun c7 => ?_) (fun c7 => ?_)
        · have h := sf_ift c7 h
          refine sf_aload_n (i := 0) (j := 0) X dX7_left_41 rfl rfl rfl ?_
          refine sf_getR (C := RX7) (T := TX7) (N := 23) (ci := 7) (j := 7) (k' := 6) X (fun w h => sf_memc (inX7 w h)) rfl rfl (by decide) (X.1.2.2.2.2 _ (sf_memc tw_638)) (fun _ h9 => h9) rfl dX7_left_42 rfl ?_
          refine sf_iload_n (i := 3) (j := 3) X dX7_left_45 rfl rfl rfl ?_
          obtain ⟨b8, h⟩ := h
          refine sf_iald X rfl b8 dX7_left_46 rfl ?_
          refine sf_goto (tgt := 51) X dX7_left_47 rfl ?_
          refine sf_isub X dX7_left_51 rfl ?_
          refine sf_top (fun y9 hy9 => ?_)
          have h := h y9 hy9
          refine sf_istore_n (i := 2) (lv' := [(2, .int y9), (0, .ref (q 0)), (1, .int u0), (3, .int u2)]) X dX7_left_52 rfl (by decide) rfl rfl ?_
          refine sf_iinc (i := 3) (j := 3) (d := 1) (lv' := fun y10 => [(3, .int y10), (2, .int y9), (0, .ref (q 0)), (1, .int u0)]) X dX7_left_53 rfl sf_ic_1 (by decide) (fun _ => rfl) rfl (fun y10 hy10 => ?_)
          have h := h y10 hy10
          refine sf_goto (tgt := 12) X dX7_left_56 rfl ?_
          refine sf_loc (lv' := [(0, .ref (q 0)), (1, .int u0), (2, .int y9), (3, .int y10)]) [2, 3, 1, 0] rfl ?_
          exact h
        · have h := sf_iff c7 h
          refine sf_aload_n (i := 0) (j := 0) X dX7_left_31 rfl rfl rfl ?_
          refine sf_getR (C := RX7) (T := TX7) (N := 23) (ci := 7) (j := 6) (k' := 5) X (fun w h => sf_memc (inX7 w h)) rfl rfl (by decide) (X.1.2.2.2.2 _ (sf_memc tw_637)) (fun _ h9 => h9) rfl dX7_left_32 rfl ?_
          refine sf_iload_n (i := 3) (j := 3) X dX7_left_35 rfl rfl rfl ?_
          obtain ⟨b11, h⟩ := h
          refine sf_iald X rfl b11 dX7_left_36 rfl ?_
          refine sf_iload_n (i := 1) (j := 1) X dX7_left_37 rfl rfl rfl ?_
          refine sf_icmp_ne (tgt := 50) X dX7_left_38 rfl rfl (fun c12 => ?_) (fun c12 => ?_)
          · have h := sf_iff c12 h
            refine sf_iconst (v := 0) X dX7_left_50 sf_ic_0 rfl ?_
            refine sf_isub X dX7_left_51 rfl ?_
            refine sf_top (fun y13 hy13 => ?_)
            have h := h y13 hy13
            refine sf_istore_n (i := 2) (lv' := [(2, .int y13), (0, .ref (q 0)), (1, .int u0), (3, .int u2)]) X dX7_left_52 rfl (by decide) rfl rfl ?_
            refine sf_iinc (i := 3) (j := 3) (d := 1) (lv' := fun y14 => [(3, .int y14), (2, .int y13), (0, .ref (q 0)), (1, .int u0)]) X dX7_left_53 rfl sf_ic_1 (by decide) (fun _ => rfl) rfl (fun y14 hy14 => ?_)
            have h := h y14 hy14
            refine sf_goto (tgt := 12) X dX7_left_56 rfl ?_
            refine sf_loc (lv' := [(0, .ref (q 0)), (1, .int u0), (2, .int y13), (3, .int y14)]) [2, 3, 1, 0] rfl ?_
            exact h
          · have h := sf_ift c12 h
            refine sf_aload_n (i := 0) (j := 0) X dX7_left_41 rfl rfl rfl ?_
            refine sf_getR (C := RX7) (T := TX7) (N := 23) (ci := 7) (j := 7) (k' := 6) X (fun w h => sf_memc (inX7 w h)) rfl rfl (by decide) (X.1.2.2.2.2 _ (sf_memc tw_638)) (fun _ h9 => h9) rfl dX7_left_42 rfl ?_
            refine sf_iload_n (i := 3) (j := 3) X dX7_left_45 rfl rfl rfl ?_
            obtain ⟨b15, h⟩ := h
            refine sf_iald X rfl b15 dX7_left_46 rfl ?_
            refine sf_goto (tgt := 51) X dX7_left_47 rfl ?_
            refine sf_isub X dX7_left_51 rfl ?_
            refine sf_top (fun y16 hy16 => ?_)
            have h := h y16 hy16
            refine sf_istore_n (i := 2) (lv' := [(2, .int y16), (0, .ref (q 0)), (1, .int u0), (3, .int u2)]) X dX7_left_52 rfl (by decide) rfl rfl ?_
            refine sf_iinc (i := 3) (j := 3) (d := 1) (lv' := fun y17 => [(3, .int y17), (2, .int y16), (0, .ref (q 0)), (1, .int u0)]) X dX7_left_53 rfl sf_ic_1 (by decide) (fun _ => rfl) rfl (fun y17 hy17 => ?_)
            have h := h y17 hy17
            refine sf_goto (tgt := 12) X dX7_left_56 rfl ?_
            refine sf_loc (lv' := [(0, .ref (q 0)), (1, .int u0), (2, .int y16), (3, .int y17)]) [2, 3, 1, 0] rfl ?_
            exact h
  | (_ + 2), _ => exact trivial
def R_X7_bond (σ : sf_St) (u0 u1 u2 u3 : Int32) (r : Int32) (τ : sf_St) : Prop :=
  ∃ (r3 : Int32) (τ2 : sf_St), R_X7_isAtom σ u0 r3 τ2 ∧ (if r3 = (0 : Int32) then (r = (-1 : Int32) ∧ τ = τ2) else (∃ (r7 : Int32) (τ6 : sf_St), R_X7_isAtom τ2 u1 r7 τ6 ∧ (if r7 = (0 : Int32) then (r = (-1 : Int32) ∧ τ = τ6) else (if u0 = u1 then (r = (-1 : Int32) ∧ τ = τ6) else (if u2 < (1 : Int32) then (r = (-1 : Int32) ∧ τ = τ6) else (if (3 : Int32) < u2 then (r = (-1 : Int32) ∧ τ = τ6) else (if u3 < (0 : Int32) then (r = (-1 : Int32) ∧ τ = τ6) else (if (2 : Int32) < u3 then (r = (-1 : Int32) ∧ τ = τ6) else (∃ (r16 : Int32) (τ15 : sf_St), R_X7_bondOf τ6 u0 u1 r16 τ15 ∧ (if r16 < (0 : Int32) then (if (τ15 0 4) = (9 : Int32) then (r = (-2 : Int32) ∧ τ = τ15) else (∃ (r21 : Int32) (τ20 : sf_St), R_X7_left τ15 u0 r21 τ20 ∧ (if r21 < u2 then (r = (-3 : Int32) ∧ τ = τ20) else (∃ (r25 : Int32) (τ24 : sf_St), R_X7_left τ20 u1 r25 τ24 ∧ (if u2 ≤ r25 then (vp_in (τ24 0 4) 9 ∧ (∀ τ28 : sf_St, τ28 = sf_up τ24 4 (sf_ix (τ24 0 4)) u0 → (vp_in (τ28 0 4) 9 ∧ (∀ τ30 : sf_St, τ30 = sf_up τ28 5 (sf_ix (τ28 0 4)) u1 → (vp_in (τ30 0 4) 9 ∧ (∀ τ32 : sf_St, τ32 = sf_up τ30 6 (sf_ix (τ30 0 4)) u2 → (vp_in (τ32 0 4) 9 ∧ (∀ τ34 : sf_St, τ34 = sf_up τ32 7 (sf_ix (τ32 0 4)) u3 → (∀ τ35 : sf_St, τ35 = sf_up τ34 0 4 ((τ34 0 4) + (1 : Int32)) → (∀ τ36 : sf_St, τ36 = sf_up τ35 0 11 (0 : Int32) → (r = ((τ36 0 4) - (1 : Int32)) ∧ τ = τ36))))))))))) else (r = (-3 : Int32) ∧ τ = τ24)))))) else (r = (-1 : Int32) ∧ τ = τ15)))))))))))
set_option maxHeartbeats 4000000 in
set_option maxRecDepth 100000 in
theorem c_X7_bond {l : Launch} {D : va_G} {q : Nat → Nat} {dA : Nat → ClassId}  (hq : sf_inj q KM) {σ τ : sf_St} {u0 u1 u2 u3 : Int32} {r : Int32} (h : R_X7_bond σ u0 u1 u2 u3 r τ) : sf_Mi l yX7_bond wsX7_bond ({ frames := 2, cells := 0, slots := 0, locals := 43 }) D vwCl q dA KM sf_EM [.ref (q 0), .int u0, .int u1, .int u2, .int u3] σ r τ := by
  refine sf_meti (cc := cX7_bond) (maxL := 5) (ret := (some .int)) (own := RX7) (by decide +kernel) rfl rfl hq sf_EMk (Nat.le_of_ble_eq_true rfl) ?_
  intro p e s m args below meth c X
  unfold R_X7_bond at h
  refine sf_loc (lv' := [(0, .ref (q 0)), (1, .int u0), (2, .int u1), (3, .int u2), (4, .int u3)]) [0, 1, 2, 3, 4] rfl ?_
  refine sf_aload_n (i := 0) (j := 0) X dX7_bond_0 rfl rfl rfl ?_
  refine sf_iload_n (i := 1) (j := 1) X dX7_bond_1 rfl rfl rfl ?_
  obtain ⟨r3, τ2, hR1, h⟩ := h
  refine sf_callVi (As := [.int u0]) (rest := []) (cv := (RX7, TX7, 23)) X rfl rfl (c_X7_isAtom hq hR1) (cwV 1 X.1.2.2.2.2 (sf_gV tw_712 tw_714 tw_15 tw_48 tw_715) rfl rfl rfl ⟨rfl, hd_X7_isAtom⟩ ⟨Nat.le_of_ble_eq_true rfl, Nat.le_of_ble_eq_true rfl⟩) rfl rfl (Nat.le_of_ble_eq_true rfl) dX7_bond_2 rfl ?_
  refine sf_if_eq (tgt := 51) X dX7_bond_5 rfl rfl (fun c4 => ?_) (fun c4 => ?_)
  · have h := sf_ift c4 h
    refine sf_iconst (v := (-1)) X dX7_bond_51 sf_ic_m1 rfl ?_
    exact sf_reti X h dX7_bond_52
  · have h := sf_iff c4 h
    refine sf_aload_n (i := 0) (j := 0) X dX7_bond_8 rfl rfl rfl ?_
    refine sf_iload_n (i := 2) (j := 2) X dX7_bond_9 rfl rfl rfl ?_
    obtain ⟨r7, τ6, hR5, h⟩ := h
    refine sf_callVi (As := [.int u1]) (rest := []) (cv := (RX7, TX7, 23)) X rfl rfl (c_X7_isAtom hq hR5) (cwV 1 X.1.2.2.2.2 (sf_gV tw_712 tw_714 tw_15 tw_48 tw_715) rfl rfl rfl ⟨rfl, hd_X7_isAtom⟩ ⟨Nat.le_of_ble_eq_true rfl, Nat.le_of_ble_eq_true rfl⟩) rfl rfl (Nat.le_of_ble_eq_true rfl) dX7_bond_10 rfl ?_
    refine sf_if_eq (tgt := 51) X dX7_bond_13 rfl rfl (fun c8 => ?_) (fun c8 => ?_)
    · have h := sf_ift c8 h
      refine sf_iconst (v := (-1)) X dX7_bond_51 sf_ic_m1 rfl ?_
      exact sf_reti X h dX7_bond_52
    · have h := sf_iff c8 h
      refine sf_iload_n (i := 1) (j := 1) X dX7_bond_16 rfl rfl rfl ?_
      refine sf_iload_n (i := 2) (j := 2) X dX7_bond_17 rfl rfl rfl ?_
      refine sf_icmp_eq (tgt := 51) X dX7_bond_18 rfl rfl (fun c9 => ?_) (fun c9 => ?_)
      · have h := sf_ift c9 h
        refine sf_iconst (v := (-1)) X dX7_bond_51 sf_ic_m1 rfl ?_
        exact sf_reti X h dX7_bond_52
      · have h := sf_iff c9 h
        refine sf_iload_n (i := 3) (j := 3) X dX7_bond_21 rfl rfl rfl ?_
        refine sf_iconst (v := 1) X dX7_bond_22 sf_ic_1 rfl ?_
        refine sf_icmp_lt (tgt := 51) X dX7_bond_23 rfl rfl (fun c10 => ?_) (fun c10 => ?_)
        · have h := sf_ift c10 h
          refine sf_iconst (v := (-1)) X dX7_bond_51 sf_ic_m1 rfl ?_
          exact sf_reti X h dX7_bond_52
        · have h := sf_iff c10 h
          refine sf_iload_n (i := 3) (j := 3) X dX7_bond_26 rfl rfl rfl ?_
          refine sf_iconst (v := 3) X dX7_bond_27 sf_ic_3 rfl ?_
          refine sf_icmp_gt (tgt := 51) X dX7_bond_28 rfl rfl (fun c11 => ?_) (fun c11 => ?_)
          · have h := sf_ift c11 h
            refine sf_iconst (v := (-1)) X dX7_bond_51 sf_ic_m1 rfl ?_
            exact sf_reti X h dX7_bond_52
          · have h := sf_iff c11 h
            refine sf_iload (i := 4) (j := 4) X dX7_bond_31 rfl rfl ?_
            refine sf_if_lt (tgt := 51) X dX7_bond_33 rfl rfl (fun c12 => ?_) (fun c12 => ?_)
            · have h := sf_ift c12 h
              refine sf_iconst (v := (-1)) X dX7_bond_51 sf_ic_m1 rfl ?_
              exact sf_reti X h dX7_bond_52
            · have h := sf_iff c12 h
              refine sf_iload (i := 4) (j := 4) X dX7_bond_36 rfl rfl ?_
              refine sf_iconst (v := 2) X dX7_bond_38 sf_ic_2 rfl ?_
              refine sf_icmp_gt (tgt := 51) X dX7_bond_39 rfl rfl (fun c13 => ?_) (fun c13 => ?_)
              · have h := sf_ift c13 h
                refine sf_iconst (v := (-1)) X dX7_bond_51 sf_ic_m1 rfl ?_
                exact sf_reti X h dX7_bond_52
              · have h := sf_iff c13 h
                refine sf_aload_n (i := 0) (j := 0) X dX7_bond_42 rfl rfl rfl ?_
                refine sf_iload_n (i := 1) (j := 1) X dX7_bond_43 rfl rfl rfl ?_
                refine sf_iload_n (i := 2) (j := 2) X dX7_bond_44 rfl rfl rfl ?_
                obtain ⟨r16, τ15, hR14, h⟩ := h
                refine sf_callVi (As := [.int u0, .int u1]) (rest := []) (cv := (RX7, TX7, 23)) X rfl rfl (c_X7_bondOf hq hR14) (cwV 2 X.1.2.2.2.2 (sf_gV tw_716 tw_718 tw_16 tw_48 tw_719) rfl rfl rfl ⟨rfl, hd_X7_bondOf⟩ ⟨Nat.le_of_ble_eq_true rfl, Nat.le_of_ble_eq_true rfl⟩) rfl rfl (Nat.le_of_ble_eq_true rfl) dX7_bond_45 rfl ?_
                refine sf_if_lt (tgt := 53) X dX7_bond_48 rfl rfl (fun c17 => ?_) (fun c17 => ?_)
                · have h := sf_ift c17 h
                  refine sf_aload_n (i := 0) (j := 0) X dX7_bond_53 rfl rfl rfl ?_
                  refine sf_getI (C := RX7) (T := TX7) (N := 23) (ci := 7) (j := 4) X (fun w h => sf_memc (inX7 w h)) rfl rfl (by decide) (X.1.2.2.2.2 _ (sf_memc tw_635)) (fun _ h9 => h9) rfl dX7_bond_54 rfl ?_
                  refine sf_bipush (v := 9) X dX7_bond_57 sf_bc_9 rfl ?_
                  refine sf_icmp_ne (tgt := 65) X dX7_bond_59 rfl rfl (fun c18 => ?_) (fun c18 => ?_)
                  · have h := sf_iff c18 h
                    refine sf_aload_n (i := 0) (j := 0) X dX7_bond_65 rfl rfl rfl ?_
                    refine sf_iload_n (i := 1) (j := 1) X dX7_bond_66 rfl rfl rfl ?_
                    obtain ⟨r21, τ20, hR19, h⟩ := h
                    refine sf_callVi (As := [.int u0]) (rest := []) (cv := (RX7, TX7, 23)) X rfl rfl (c_X7_left hq hR19) (cwV 1 X.1.2.2.2.2 (sf_gV tw_720 tw_722 tw_17 tw_48 tw_723) rfl rfl rfl ⟨rfl, hd_X7_left⟩ ⟨Nat.le_of_ble_eq_true rfl, Nat.le_of_ble_eq_true rfl⟩) rfl rfl (Nat.le_of_ble_eq_true rfl) dX7_bond_67 rfl ?_
                    refine sf_iload_n (i := 3) (j := 3) X dX7_bond_70 rfl rfl rfl ?_
                    refine sf_icmp_lt (tgt := 83) X dX7_bond_71 rfl rfl (fun c22 => ?_) (fun c22 => ?_)
                    · have h := sf_ift c22 h
                      refine sf_bipush (v := (-3)) X dX7_bond_83 sf_bc_m3 rfl ?_
                      exact sf_reti X h dX7_bond_85
                    · have h := sf_iff c22 h
                      refine sf_aload_n (i := 0) (j := 0) X dX7_bond_74 rfl rfl rfl ?_
                      refine sf_iload_n (i := 2) (j := 2) X dX7_bond_75 rfl rfl rfl ?_
                      obtain ⟨r25, τ24, hR23, h⟩ := h
                      refine sf_callVi (As := [.int u1]) (rest := []) (cv := (RX7, TX7, 23)) X rfl rfl (c_X7_left hq hR23) (cwV 1 X.1.2.2.2.2 (sf_gV tw_720 tw_722 tw_17 tw_48 tw_723) rfl rfl rfl ⟨rfl, hd_X7_left⟩ ⟨Nat.le_of_ble_eq_true rfl, Nat.le_of_ble_eq_true rfl⟩) rfl rfl (Nat.le_of_ble_eq_true rfl) dX7_bond_76 rfl ?_
                      refine sf_iload_n (i := 3) (j := 3) X dX7_bond_79 rfl rfl rfl ?_
                      refine sf_icmp_ge (tgt := 86) X dX7_bond_80 rfl rfl (fun c26 => ?_) (fun c26 => ?_)
                      · have h := sf_ift c26 h
                        refine sf_aload_n (i := 0) (j := 0) X dX7_bond_86 rfl rfl rfl ?_
                        refine sf_getR (C := RX7) (T := TX7) (N := 23) (ci := 7) (j := 5) (k' := 4) X (fun w h => sf_memc (inX7 w h)) rfl rfl (by decide) (X.1.2.2.2.2 _ (sf_memc tw_636)) (fun _ h9 => h9) rfl dX7_bond_87 rfl ?_
                        refine sf_aload_n (i := 0) (j := 0) X dX7_bond_90 rfl rfl rfl ?_
                        refine sf_getI (C := RX7) (T := TX7) (N := 23) (ci := 7) (j := 4) X (fun w h => sf_memc (inX7 w h)) rfl rfl (by decide) (X.1.2.2.2.2 _ (sf_memc tw_635)) (fun _ h9 => h9) rfl dX7_bond_91 rfl ?_
                        refine sf_iload_n (i := 1) (j := 1) X dX7_bond_94 rfl rfl rfl ?_
                        obtain ⟨b27, h⟩ := h
                        refine sf_iast X rfl b27 dX7_bond_95 rfl (fun τ28 hτ28 => ?_)
                        have h := h τ28 hτ28
                        refine sf_aload_n (i := 0) (j := 0) X dX7_bond_96 rfl rfl rfl ?_
                        refine sf_getR (C := RX7) (T := TX7) (N := 23) (ci := 7) (j := 6) (k' := 5) X (fun w h => sf_memc (inX7 w h)) rfl rfl (by decide) (X.1.2.2.2.2 _ (sf_memc tw_637)) (fun _ h9 => h9) rfl dX7_bond_97 rfl ?_
                        refine sf_aload_n (i := 0) (j := 0) X dX7_bond_100 rfl rfl rfl ?_
                        refine sf_getI (C := RX7) (T := TX7) (N := 23) (ci := 7) (j := 4) X (fun w h => sf_memc (inX7 w h)) rfl rfl (by decide) (X.1.2.2.2.2 _ (sf_memc tw_635)) (fun _ h9 => h9) rfl dX7_bond_101 rfl ?_
                        refine sf_iload_n (i := 2) (j := 2) X dX7_bond_104 rfl rfl rfl ?_
                        obtain ⟨b29, h⟩ := h
                        refine sf_iast X rfl b29 dX7_bond_105 rfl (fun τ30 hτ30 => ?_)
                        have h := h τ30 hτ30
                        refine sf_aload_n (i := 0) (j := 0) X dX7_bond_106 rfl rfl rfl ?_
                        refine sf_getR (C := RX7) (T := TX7) (N := 23) (ci := 7) (j := 7) (k' := 6) X (fun w h => sf_memc (inX7 w h)) rfl rfl (by decide) (X.1.2.2.2.2 _ (sf_memc tw_638)) (fun _ h9 => h9) rfl dX7_bond_107 rfl ?_
                        refine sf_aload_n (i := 0) (j := 0) X dX7_bond_110 rfl rfl rfl ?_
                        refine sf_getI (C := RX7) (T := TX7) (N := 23) (ci := 7) (j := 4) X (fun w h => sf_memc (inX7 w h)) rfl rfl (by decide) (X.1.2.2.2.2 _ (sf_memc tw_635)) (fun _ h9 => h9) rfl dX7_bond_111 rfl ?_
                        refine sf_iload_n (i := 3) (j := 3) X dX7_bond_114 rfl rfl rfl ?_
                        obtain ⟨b31, h⟩ := h
                        refine sf_iast X rfl b31 dX7_bond_115 rfl (fun τ32 hτ32 => ?_)
                        have h := h τ32 hτ32
                        refine sf_aload_n (i := 0) (j := 0) X dX7_bond_116 rfl rfl rfl ?_
                        refine sf_getR (C := RX7) (T := TX7) (N := 23) (ci := 7) (j := 8) (k' := 7) X (fun w h => sf_memc (inX7 w h)) rfl rfl (by decide) (X.1.2.2.2.2 _ (sf_memc tw_639)) (fun _ h9 => h9) rfl dX7_bond_117 rfl ?_
                        refine sf_aload_n (i := 0) (j := 0) X dX7_bond_120 rfl rfl rfl ?_
                        refine sf_getI (C := RX7) (T := TX7) (N := 23) (ci := 7) (j := 4) X (fun w h => sf_memc (inX7 w h)) rfl rfl (by decide) (X.1.2.2.2.2 _ (sf_memc tw_635)) (fun _ h9 => h9) rfl dX7_bond_121 rfl ?_
                        refine sf_iload (i := 4) (j := 4) X dX7_bond_124 rfl rfl ?_
                        obtain ⟨b33, h⟩ := h
                        refine sf_iast X rfl b33 dX7_bond_126 rfl (fun τ34 hτ34 => ?_)
                        have h := h τ34 hτ34
                        refine sf_aload_n (i := 0) (j := 0) X dX7_bond_127 rfl rfl rfl ?_
                        refine sf_dup X dX7_bond_128 rfl rfl ?_
                        refine sf_getI (C := RX7) (T := TX7) (N := 23) (ci := 7) (j := 4) X (fun w h => sf_memc (inX7 w h)) rfl rfl (by decide) (X.1.2.2.2.2 _ (sf_memc tw_635)) (fun _ h9 => h9) rfl dX7_bond_129 rfl ?_
                        refine sf_iconst (v := 1) X dX7_bond_132 sf_ic_1 rfl ?_
                        refine sf_iadd X dX7_bond_133 rfl ?_
                        refine sf_putI (C := RX7) (T := TX7) (N := 23) (ci := 7) (j := 4) (ty := .int) X (fun w h => sf_memc (inX7 w h)) rfl rfl (by decide) (X.1.2.2.2.2 _ (sf_memc tw_635)) (fun _ h9 => h9) tyX7 tyX7_ok nmX7 rfl (by decide +kernel) rfl rfl rfl dX7_bond_134 rfl (fun τ35 hτ35 => ?_)
                        have h := h τ35 hτ35
                        refine sf_aload_n (i := 0) (j := 0) X dX7_bond_137 rfl rfl rfl ?_
                        refine sf_iconst (v := 0) X dX7_bond_138 sf_ic_0 rfl ?_
                        refine sf_putI (C := RX7) (T := TX7) (N := 23) (ci := 7) (j := 11) (ty := .boolean) X (fun w h => sf_memc (inX7 w h)) rfl rfl (by decide) (X.1.2.2.2.2 _ (sf_memc tw_642)) (fun _ h9 => h9) tyX7 tyX7_ok nmX7 rfl (by decide +kernel) rfl rfl rfl dX7_bond_139 rfl (fun τ36 hτ36 => ?_)
                        have h := h τ36 hτ36
                        refine sf_aload_n (i := 0) (j := 0) X dX7_bond_142 rfl rfl rfl ?_
                        refine sf_getI (C := RX7) (T := TX7) (N := 23) (ci := 7) (j := 4) X (fun w h => sf_memc (inX7 w h)) rfl rfl (by decide) (X.1.2.2.2.2 _ (sf_memc tw_635)) (fun _ h9 => h9) rfl dX7_bond_143 rfl ?_
                        refine sf_iconst (v := 1) X dX7_bond_146 sf_ic_1 rfl ?_
                        refine sf_isub X dX7_bond_147 rfl ?_
                        exact sf_reti X h dX7_bond_148
                      · have h := sf_iff c26 h
                        refine sf_bipush (v := (-3)) X dX7_bond_83 sf_bc_m3 rfl ?_
                        exact sf_reti X h dX7_bond_85
                  · have h := sf_ift c18 h
                    refine sf_bipush (v := (-2)) X dX7_bond_62 sf_bc_m2 rfl ?_
                    exact sf_reti X h dX7_bond_64
                · have h := sf_iff c17 h
                  refine sf_iconst (v := (-1)) X dX7_bond_51 sf_ic_m1 rfl ?_
                  exact sf_reti X h dX7_bond_52
def R_X7_move (σ : sf_St) (u0 u1 u2 : Int32) (r : Int32) (τ : sf_St) : Prop :=
  ∃ (r3 : Int32) (τ2 : sf_St), R_X7_isAtom σ u0 r3 τ2 ∧ (if r3 = (0 : Int32) then (r = (0 : Int32) ∧ τ = τ2) else (∃ (r7 : Int32) (τ6 : sf_St), R_X7_isPlace τ2 u1 r7 τ6 ∧ (if r7 = (0 : Int32) then (r = (0 : Int32) ∧ τ = τ6) else (∃ (r11 : Int32) (τ10 : sf_St), R_X7_isPlace τ6 u2 r11 τ10 ∧ (if r11 = (0 : Int32) then (r = (0 : Int32) ∧ τ = τ10) else (vp_in u0 7 ∧ (∀ τ14 : sf_St, τ14 = sf_up τ10 2 (sf_ix u0) u1 → (vp_in u0 7 ∧ (∀ τ16 : sf_St, τ16 = sf_up τ14 3 (sf_ix u0) u2 → (r = (1 : Int32) ∧ τ = τ16))))))))))
set_option maxHeartbeats 4000000 in
set_option maxRecDepth 100000 in
theorem c_X7_move {l : Launch} {D : va_G} {q : Nat → Nat} {dA : Nat → ClassId}  (hq : sf_inj q KM) {σ τ : sf_St} {u0 u1 u2 : Int32} {r : Int32} (h : R_X7_move σ u0 u1 u2 r τ) : sf_Mi l yX7_move wsX7_move ({ frames := 1, cells := 0, slots := 0, locals := 21 }) D vwCl q dA KM sf_EM [.ref (q 0), .int u0, .int u1, .int u2] σ r τ := by
  refine sf_meti (cc := cX7_move) (maxL := 4) (ret := (some .boolean)) (own := RX7) (by decide +kernel) rfl rfl hq sf_EMk (Nat.le_of_ble_eq_true rfl) ?_
  intro p e s m args below meth c X
  unfold R_X7_move at h
  refine sf_loc (lv' := [(0, .ref (q 0)), (1, .int u0), (2, .int u1), (3, .int u2)]) [0, 1, 2, 3] rfl ?_
  refine sf_aload_n (i := 0) (j := 0) X dX7_move_0 rfl rfl rfl ?_
  refine sf_iload_n (i := 1) (j := 1) X dX7_move_1 rfl rfl rfl ?_
  obtain ⟨r3, τ2, hR1, h⟩ := h
  refine sf_callVi (As := [.int u0]) (rest := []) (cv := (RX7, TX7, 23)) X rfl rfl (c_X7_isAtom hq hR1) (cwV 1 X.1.2.2.2.2 (sf_gV tw_712 tw_714 tw_15 tw_48 tw_715) rfl rfl rfl ⟨rfl, hd_X7_isAtom⟩ ⟨Nat.le_of_ble_eq_true rfl, Nat.le_of_ble_eq_true rfl⟩) rfl rfl (Nat.le_of_ble_eq_true rfl) dX7_move_2 rfl ?_
  refine sf_if_eq (tgt := 22) X dX7_move_5 rfl rfl (fun c4 => ?_) (fun c4 => ?_)
  · have h := sf_ift c4 h
    refine sf_iconst (v := 0) X dX7_move_22 sf_ic_0 rfl ?_
    exact sf_retz X h rfl dX7_move_23
  · have h := sf_iff c4 h
    refine sf_iload_n (i := 2) (j := 2) X dX7_move_8 rfl rfl rfl ?_
    obtain ⟨r7, τ6, hR5, h⟩ := h
    refine sf_callSi (As := [.int u1]) (rest := []) X (c_X7_isPlace hq hR5) (va_cwS 1 X.1.2.2.2.2 (sf_gS tw_705 tw_706 tw_48 tw_707) rfl rfl rfl hd_X7_isPlace ⟨Nat.le_of_ble_eq_true rfl, Nat.le_of_ble_eq_true rfl⟩) rfl rfl (Nat.le_of_ble_eq_true rfl) dX7_move_9 rfl ?_
    refine sf_if_eq (tgt := 22) X dX7_move_12 rfl rfl (fun c8 => ?_) (fun c8 => ?_)
    · have h := sf_ift c8 h
      refine sf_iconst (v := 0) X dX7_move_22 sf_ic_0 rfl ?_
      exact sf_retz X h rfl dX7_move_23
    · have h := sf_iff c8 h
      refine sf_iload_n (i := 3) (j := 3) X dX7_move_15 rfl rfl rfl ?_
      obtain ⟨r11, τ10, hR9, h⟩ := h
      refine sf_callSi (As := [.int u2]) (rest := []) X (c_X7_isPlace hq hR9) (va_cwS 1 X.1.2.2.2.2 (sf_gS tw_705 tw_706 tw_48 tw_707) rfl rfl rfl hd_X7_isPlace ⟨Nat.le_of_ble_eq_true rfl, Nat.le_of_ble_eq_true rfl⟩) rfl rfl (Nat.le_of_ble_eq_true rfl) dX7_move_16 rfl ?_
      refine sf_if_ne (tgt := 24) X dX7_move_19 rfl rfl (fun c12 => ?_) (fun c12 => ?_)
      · have h := sf_iff c12 h
        refine sf_aload_n (i := 0) (j := 0) X dX7_move_24 rfl rfl rfl ?_
        refine sf_getR (C := RX7) (T := TX7) (N := 23) (ci := 7) (j := 2) (k' := 2) X (fun w h => sf_memc (inX7 w h)) rfl rfl (by decide) (X.1.2.2.2.2 _ (sf_memc tw_633)) (fun _ h9 => h9) rfl dX7_move_25 rfl ?_
        refine sf_iload_n (i := 1) (j := 1) X dX7_move_28 rfl rfl rfl ?_
        refine sf_iload_n (i := 2) (j := 2) X dX7_move_29 rfl rfl rfl ?_
        obtain ⟨b13, h⟩ := h
        refine sf_iast X rfl b13 dX7_move_30 rfl (fun τ14 hτ14 => ?_)
        have h := h τ14 hτ14
        refine sf_aload_n (i := 0) (j := 0) X dX7_move_31 rfl rfl rfl ?_
        refine sf_getR (C := RX7) (T := TX7) (N := 23) (ci := 7) (j := 3) (k' := 3) X (fun w h => sf_memc (inX7 w h)) rfl rfl (by decide) (X.1.2.2.2.2 _ (sf_memc tw_634)) (fun _ h9 => h9) rfl dX7_move_32 rfl ?_
        refine sf_iload_n (i := 1) (j := 1) X dX7_move_35 rfl rfl rfl ?_
        refine sf_iload_n (i := 3) (j := 3) X dX7_move_36 rfl rfl rfl ?_
        obtain ⟨b15, h⟩ := h
        refine sf_iast X rfl b15 dX7_move_37 rfl (fun τ16 hτ16 => ?_)
        have h := h τ16 hτ16
        refine sf_iconst (v := 1) X dX7_move_38 sf_ic_1 rfl ?_
        exact sf_retz X h rfl dX7_move_39
      · have h := sf_ift c12 h
        refine sf_iconst (v := 0) X dX7_move_22 sf_ic_0 rfl ?_
        exact sf_retz X h rfl dX7_move_23
def R_X7_isBond (σ : sf_St) (u0 : Int32) (r : Int32) (τ : sf_St) : Prop :=
  if u0 < (0 : Int32) then (r = (0 : Int32) ∧ τ = σ) else (if (σ 0 4) ≤ u0 then (r = (0 : Int32) ∧ τ = σ) else (r = (1 : Int32) ∧ τ = σ))
set_option maxHeartbeats 4000000 in
set_option maxRecDepth 100000 in
theorem c_X7_isBond {l : Launch} {D : va_G} {q : Nat → Nat} {dA : Nat → ClassId}  (hq : sf_inj q KM) {σ τ : sf_St} {u0 : Int32} {r : Int32} (h : R_X7_isBond σ u0 r τ) : sf_Mi l yX7_isBond wsX7_isBond ({ frames := 0, cells := 0, slots := 0, locals := 0 }) D vwCl q dA KM sf_EM [.ref (q 0), .int u0] σ r τ := by
  refine sf_meti (cc := cX7_isBond) (maxL := 2) (ret := (some .boolean)) (own := RX7) (by decide +kernel) rfl rfl hq sf_EMk (Nat.le_of_ble_eq_true rfl) ?_
  intro p e s m args below meth c X
  unfold R_X7_isBond at h
  refine sf_loc (lv' := [(0, .ref (q 0)), (1, .int u0)]) [0, 1] rfl ?_
  refine sf_iload_n (i := 1) (j := 1) X dX7_isBond_0 rfl rfl rfl ?_
  refine sf_if_lt (tgt := 16) X dX7_isBond_1 rfl rfl (fun c1 => ?_) (fun c1 => ?_)
  · have h := sf_ift c1 h
    refine sf_iconst (v := 0) X dX7_isBond_16 sf_ic_0 rfl ?_
    exact sf_retz X h rfl dX7_isBond_17
  · have h := sf_iff c1 h
    refine sf_iload_n (i := 1) (j := 1) X dX7_isBond_4 rfl rfl rfl ?_
    refine sf_aload_n (i := 0) (j := 0) X dX7_isBond_5 rfl rfl rfl ?_
    refine sf_getI (C := RX7) (T := TX7) (N := 23) (ci := 7) (j := 4) X (fun w h => sf_memc (inX7 w h)) rfl rfl (by decide) (X.1.2.2.2.2 _ (sf_memc tw_635)) (fun _ h9 => h9) rfl dX7_isBond_6 rfl ?_
    refine sf_icmp_ge (tgt := 16) X dX7_isBond_9 rfl rfl (fun c2 => ?_) (fun c2 => ?_)
    · have h := sf_ift c2 h
      refine sf_iconst (v := 0) X dX7_isBond_16 sf_ic_0 rfl ?_
      exact sf_retz X h rfl dX7_isBond_17
    · have h := sf_iff c2 h
      refine sf_iconst (v := 1) X dX7_isBond_12 sf_ic_1 rfl ?_
      refine sf_goto (tgt := 17) X dX7_isBond_13 rfl ?_
      exact sf_retz X h rfl dX7_isBond_17
def R_X7_mark (σ : sf_St) (u0 u1 u2 : Int32) (r : Int32) (τ : sf_St) : Prop :=
  ∃ (r3 : Int32) (τ2 : sf_St), R_X7_isBond σ u0 r3 τ2 ∧ (if r3 = (0 : Int32) then (r = (0 : Int32) ∧ τ = τ2) else (if u1 < (0 : Int32) then (r = (0 : Int32) ∧ τ = τ2) else (if (2 : Int32) < u1 then (r = (0 : Int32) ∧ τ = τ2) else (vp_in u0 9 ∧ (if (τ2 4 (sf_ix u0)) = u2 then (vp_in u0 9 ∧ (vp_in u0 9 ∧ (∀ y11 : Int32, y11 = (((τ2 4 (sf_ix u0)) + (τ2 5 (sf_ix u0))) - u2) → (vp_in u0 9 ∧ (∀ τ13 : sf_St, τ13 = sf_up τ2 4 (sf_ix u0) u2 → (vp_in u0 9 ∧ (∀ τ15 : sf_St, τ15 = sf_up τ13 5 (sf_ix u0) y11 → (vp_in u0 9 ∧ (∀ τ17 : sf_St, τ17 = sf_up τ15 7 (sf_ix u0) u1 → (r = (1 : Int32) ∧ τ = τ17)))))))))) else (vp_in u0 9 ∧ (if (τ2 5 (sf_ix u0)) = u2 then (vp_in u0 9 ∧ (vp_in u0 9 ∧ (∀ y22 : Int32, y22 = (((τ2 4 (sf_ix u0)) + (τ2 5 (sf_ix u0))) - u2) → (vp_in u0 9 ∧ (∀ τ24 : sf_St, τ24 = sf_up τ2 4 (sf_ix u0) u2 → (vp_in u0 9 ∧ (∀ τ26 : sf_St, τ26 = sf_up τ24 5 (sf_ix u0) y22 → (vp_in u0 9 ∧ (∀ τ28 : sf_St, τ28 = sf_up τ26 7 (sf_ix u0) u1 → (r = (1 : Int32) ∧ τ = τ28)))))))))) else (r = (0 : Int32) ∧ τ = τ2))))))))
set_option maxHeartbeats 4000000 in
set_option maxRecDepth 100000 in
theorem c_X7_mark {l : Launch} {D : va_G} {q : Nat → Nat} {dA : Nat → ClassId}  (hq : sf_inj q KM) {σ τ : sf_St} {u0 u1 u2 : Int32} {r : Int32} (h : R_X7_mark σ u0 u1 u2 r τ) : sf_Mi l yX7_mark wsX7_mark ({ frames := 1, cells := 0, slots := 0, locals := 21 }) D vwCl q dA KM sf_EM [.ref (q 0), .int u0, .int u1, .int u2] σ r τ := by
  refine sf_meti (cc := cX7_mark) (maxL := 5) (ret := (some .boolean)) (own := RX7) (by decide +kernel) rfl rfl hq sf_EMk (Nat.le_of_ble_eq_true rfl) ?_
  intro p e s m args below meth c X
  unfold R_X7_mark at h
  refine sf_loc (lv' := [(0, .ref (q 0)), (1, .int u0), (2, .int u1), (3, .int u2)]) [0, 1, 2, 3] rfl ?_
  refine sf_aload_n (i := 0) (j := 0) X dX7_mark_0 rfl rfl rfl ?_
  refine sf_iload_n (i := 1) (j := 1) X dX7_mark_1 rfl rfl rfl ?_
  obtain ⟨r3, τ2, hR1, h⟩ := h
  refine sf_callVi (As := [.int u0]) (rest := []) (cv := (RX7, TX7, 23)) X rfl rfl (c_X7_isBond hq hR1) (cwV 1 X.1.2.2.2.2 (sf_gV tw_735 tw_737 tw_18 tw_48 tw_738) rfl rfl rfl ⟨rfl, hd_X7_isBond⟩ ⟨Nat.le_of_ble_eq_true rfl, Nat.le_of_ble_eq_true rfl⟩) rfl rfl (Nat.le_of_ble_eq_true rfl) dX7_mark_2 rfl ?_
  refine sf_if_eq (tgt := 37) X dX7_mark_5 rfl rfl (fun c4 => ?_) (fun c4 => ?_)
  · have h := sf_ift c4 h
    refine sf_iconst (v := 0) X dX7_mark_37 sf_ic_0 rfl ?_
    exact sf_retz X h rfl dX7_mark_38
  · have h := sf_iff c4 h
    refine sf_iload_n (i := 2) (j := 2) X dX7_mark_8 rfl rfl rfl ?_
    refine sf_if_lt (tgt := 37) X dX7_mark_9 rfl rfl (fun c5 => ?_) (fun c5 => ?_)
    · have h := sf_ift c5 h
      refine sf_iconst (v := 0) X dX7_mark_37 sf_ic_0 rfl ?_
      exact sf_retz X h rfl dX7_mark_38
    · have h := sf_iff c5 h
      refine sf_iload_n (i := 2) (j := 2) X dX7_mark_12 rfl rfl rfl ?_
      refine sf_iconst (v := 2) X dX7_mark_13 sf_ic_2 rfl ?_
      refine sf_icmp_gt (tgt := 37) X dX7_mark_14 rfl rfl (fun c6 => ?_) (fun c6 => ?_)
      · have h := sf_ift c6 h
        refine sf_iconst (v := 0) X dX7_mark_37 sf_ic_0 rfl ?_
        exact sf_retz X h rfl dX7_mark_38
      · have h := sf_iff c6 h
        refine sf_aload_n (i := 0) (j := 0) X dX7_mark_17 rfl rfl rfl ?_
        refine sf_getR (C := RX7) (T := TX7) (N := 23) (ci := 7) (j := 5) (k' := 4) X (fun w h => sf_memc (inX7 w h)) rfl rfl (by decide) (X.1.2.2.2.2 _ (sf_memc tw_636)) (fun _ h9 => h9) rfl dX7_mark_18 rfl ?_
        refine sf_iload_n (i := 1) (j := 1) X dX7_mark_21 rfl rfl rfl ?_
        obtain ⟨b7, h⟩ := h
        refine sf_iald X rfl b7 dX7_mark_22 rfl ?_
        refine sf_iload_n (i := 3) (j := 3) X dX7_mark_23 rfl rfl rfl ?_
        refine sf_icmp_eq (tgt := 39) X dX7_mark_24 rfl rfl (fun c8 => ?_) (fun c8 => ?_)
        · have h := sf_ift c8 h
          refine sf_aload_n (i := 0) (j := 0) X dX7_mark_39 rfl rfl rfl ?_
          refine sf_getR (C := RX7) (T := TX7) (N := 23) (ci := 7) (j := 5) (k' := 4) X (fun w h => sf_memc (inX7 w h)) rfl rfl (by decide) (X.1.2.2.2.2 _ (sf_memc tw_636)) (fun _ h9 => h9) rfl dX7_mark_40 rfl ?_
          refine sf_iload_n (i := 1) (j := 1) X dX7_mark_43 rfl rfl rfl ?_
          obtain ⟨b9, h⟩ := h
          refine sf_iald X rfl b9 dX7_mark_44 rfl ?_
          refine sf_aload_n (i := 0) (j := 0) X dX7_mark_45 rfl rfl rfl ?_
          refine sf_getR (C := RX7) (T := TX7) (N := 23) (ci := 7) (j := 6) (k' := 5) X (fun w h => sf_memc (inX7 w h)) rfl rfl (by decide) (X.1.2.2.2.2 _ (sf_memc tw_637)) (fun _ h9 => h9) rfl dX7_mark_46 rfl ?_
          refine sf_iload_n (i := 1) (j := 1) X dX7_mark_49 rfl rfl rfl ?_
          obtain ⟨b10, h⟩ := h
          refine sf_iald X rfl b10 dX7_mark_50 rfl ?_
          refine sf_iadd X dX7_mark_51 rfl ?_
          refine sf_iload_n (i := 3) (j := 3) X dX7_mark_52 rfl rfl rfl ?_
          refine sf_isub X dX7_mark_53 rfl ?_
          refine sf_top (fun y11 hy11 => ?_)
          have h := h y11 hy11
          refine sf_istore (i := 4) (lv' := [(4, .int y11), (0, .ref (q 0)), (1, .int u0), (2, .int u1), (3, .int u2)]) X dX7_mark_54 (by decide) rfl rfl ?_
          refine sf_aload_n (i := 0) (j := 1) X dX7_mark_56 rfl rfl rfl ?_
          refine sf_getR (C := RX7) (T := TX7) (N := 23) (ci := 7) (j := 5) (k' := 4) X (fun w h => sf_memc (inX7 w h)) rfl rfl (by decide) (X.1.2.2.2.2 _ (sf_memc tw_636)) (fun _ h9 => h9) rfl dX7_mark_57 rfl ?_
          refine sf_iload_n (i := 1) (j := 2) X dX7_mark_60 rfl rfl rfl ?_
          refine sf_iload_n (i := 3) (j := 4) X dX7_mark_61 rfl rfl rfl ?_
          obtain ⟨b12, h⟩ := h
          refine sf_iast X rfl b12 dX7_mark_62 rfl (fun τ13 hτ13 => ?_)
          have h := h τ13 hτ13
          refine sf_aload_n (i := 0) (j := 1) X dX7_mark_63 rfl rfl rfl ?_
          refine sf_getR (C := RX7) (T := TX7) (N := 23) (ci := 7) (j := 6) (k' := 5) X (fun w h => sf_memc (inX7 w h)) rfl rfl (by decide) (X.1.2.2.2.2 _ (sf_memc tw_637)) (fun _ h9 => h9) rfl dX7_mark_64 rfl ?_
          refine sf_iload_n (i := 1) (j := 2) X dX7_mark_67 rfl rfl rfl ?_
          refine sf_iload (i := 4) (j := 0) X dX7_mark_68 rfl rfl ?_
          obtain ⟨b14, h⟩ := h
          refine sf_iast X rfl b14 dX7_mark_70 rfl (fun τ15 hτ15 => ?_)
          have h := h τ15 hτ15
          refine sf_aload_n (i := 0) (j := 1) X dX7_mark_71 rfl rfl rfl ?_
          refine sf_getR (C := RX7) (T := TX7) (N := 23) (ci := 7) (j := 8) (k' := 7) X (fun w h => sf_memc (inX7 w h)) rfl rfl (by decide) (X.1.2.2.2.2 _ (sf_memc tw_639)) (fun _ h9 => h9) rfl dX7_mark_72 rfl ?_
          refine sf_iload_n (i := 1) (j := 2) X dX7_mark_75 rfl rfl rfl ?_
          refine sf_iload_n (i := 2) (j := 3) X dX7_mark_76 rfl rfl rfl ?_
          obtain ⟨b16, h⟩ := h
          refine sf_iast X rfl b16 dX7_mark_77 rfl (fun τ17 hτ17 => ?_)
          have h := h τ17 hτ17
          refine sf_iconst (v := 1) X dX7_mark_78 sf_ic_1 rfl ?_
          exact sf_retz X h rfl dX7_mark_79
        · have h := sf_iff c8 h
          refine sf_aload_n (i := 0) (j := 0) X dX7_mark_27 rfl rfl rfl ?_
          refine sf_getR (C := RX7) (T := TX7) (N := 23) (ci := 7) (j := 6) (k' := 5) X (fun w h => sf_memc (inX7 w h)) rfl rfl (by decide) (X.1.2.2.2.2 _ (sf_memc tw_637)) (fun _ h9 => h9) rfl dX7_mark_28 rfl ?_
          refine sf_iload_n (i := 1) (j := 1) X dX7_mark_31 rfl rfl rfl ?_
          obtain ⟨b18, h⟩ := h
          refine sf_iald X rfl b18 dX7_mark_32 rfl ?_
          refine sf_iload_n (i := 3) (j := 3) X dX7_mark_33 rfl rfl rfl ?_
          refine sf_icmp_eq (tgt := 39) X dX7_mark_34 rfl rfl (fun c19 => ?_) (fun c19 => ?_)
          · have h := sf_ift c19 h
            refine sf_aload_n (i := 0) (j := 0) X dX7_mark_39 rfl rfl rfl ?_
            refine sf_getR (C := RX7) (T := TX7) (N := 23) (ci := 7) (j := 5) (k' := 4) X (fun w h => sf_memc (inX7 w h)) rfl rfl (by decide) (X.1.2.2.2.2 _ (sf_memc tw_636)) (fun _ h9 => h9) rfl dX7_mark_40 rfl ?_
            refine sf_iload_n (i := 1) (j := 1) X dX7_mark_43 rfl rfl rfl ?_
            obtain ⟨b20, h⟩ := h
            refine sf_iald X rfl b20 dX7_mark_44 rfl ?_
            refine sf_aload_n (i := 0) (j := 0) X dX7_mark_45 rfl rfl rfl ?_
            refine sf_getR (C := RX7) (T := TX7) (N := 23) (ci := 7) (j := 6) (k' := 5) X (fun w h => sf_memc (inX7 w h)) rfl rfl (by decide) (X.1.2.2.2.2 _ (sf_memc tw_637)) (fun _ h9 => h9) rfl dX7_mark_46 rfl ?_
            refine sf_iload_n (i := 1) (j := 1) X dX7_mark_49 rfl rfl rfl ?_
            obtain ⟨b21, h⟩ := h
            refine sf_iald X rfl b21 dX7_mark_50 rfl ?_
            refine sf_iadd X dX7_mark_51 rfl ?_
            refine sf_iload_n (i := 3) (j := 3) X dX7_mark_52 rfl rfl rfl ?_
            refine sf_isub X dX7_mark_53 rfl ?_
            refine sf_top (fun y22 hy22 => ?_)
            have h := h y22 hy22
            refine sf_istore (i := 4) (lv' := [(4, .int y22), (0, .ref (q 0)), (1, .int u0), (2, .int u1), (3, .int u2)]) X dX7_mark_54 (by decide) rfl rfl ?_
            refine sf_aload_n (i := 0) (j := 1) X dX7_mark_56 rfl rfl rfl ?_
            refine sf_getR (C := RX7) (T := TX7) (N := 23) (ci := 7) (j := 5) (k' := 4) X (fun w h => sf_memc (inX7 w h)) rfl rfl (by decide) (X.1.2.2.2.2 _ (sf_memc tw_636)) (fun _ h9 => h9) rfl dX7_mark_57 rfl ?_
            refine sf_iload_n (i := 1) (j := 2) X dX7_mark_60 rfl rfl rfl ?_
            refine sf_iload_n (i := 3) (j := 4) X dX7_mark_61 rfl rfl rfl ?_
            obtain ⟨b23, h⟩ := h
            refine sf_iast X rfl b23 dX7_mark_62 rfl (fun τ24 hτ24 => ?_)
            have h := h τ24 hτ24
            refine sf_aload_n (i := 0) (j := 1) X dX7_mark_63 rfl rfl rfl ?_
            refine sf_getR (C := RX7) (T := TX7) (N := 23) (ci := 7) (j := 6) (k' := 5) X (fun w h => sf_memc (inX7 w h)) rfl rfl (by decide) (X.1.2.2.2.2 _ (sf_memc tw_637)) (fun _ h9 => h9) rfl dX7_mark_64 rfl ?_
            refine sf_iload_n (i := 1) (j := 2) X dX7_mark_67 rfl rfl rfl ?_
            refine sf_iload (i := 4) (j := 0) X dX7_mark_68 rfl rfl ?_
            obtain ⟨b25, h⟩ := h
            refine sf_iast X rfl b25 dX7_mark_70 rfl (fun τ26 hτ26 => ?_)
            have h := h τ26 hτ26
            refine sf_aload_n (i := 0) (j := 1) X dX7_mark_71 rfl rfl rfl ?_
            refine sf_getR (C := RX7) (T := TX7) (N := 23) (ci := 7) (j := 8) (k' := 7) X (fun w h => sf_memc (inX7 w h)) rfl rfl (by decide) (X.1.2.2.2.2 _ (sf_memc tw_639)) (fun _ h9 => h9) rfl dX7_mark_72 rfl ?_
            refine sf_iload_n (i := 1) (j := 2) X dX7_mark_75 rfl rfl rfl ?_
            refine sf_iload_n (i := 2) (j := 3) X dX7_mark_76 rfl rfl rfl ?_
            obtain ⟨b27, h⟩ := h
            refine sf_iast X rfl b27 dX7_mark_77 rfl (fun τ28 hτ28 => ?_)
            have h := h τ28 hτ28
            refine sf_iconst (v := 1) X dX7_mark_78 sf_ic_1 rfl ?_
            exact sf_retz X h rfl dX7_mark_79
          · have h := sf_iff c19 h
            refine sf_iconst (v := 0) X dX7_mark_37 sf_ic_0 rfl ?_
            exact sf_retz X h rfl dX7_mark_38
def R_X7_clear (σ : sf_St) (r : Int32) (τ : sf_St) : Prop :=
  ∀ y1 : Int32, y1 = (σ 0 0) → (∀ τ2 : sf_St, τ2 = sf_up σ 0 0 (0 : Int32) → (∀ τ3 : sf_St, τ3 = sf_up τ2 0 4 (0 : Int32) → (∀ τ4 : sf_St, τ4 = sf_up τ3 0 11 (0 : Int32) → (r = y1 ∧ τ = τ4))))
set_option maxHeartbeats 4000000 in
set_option maxRecDepth 100000 in
theorem c_X7_clear {l : Launch} {D : va_G} {q : Nat → Nat} {dA : Nat → ClassId}  (hq : sf_inj q KM) {σ τ : sf_St} {r : Int32} (h : R_X7_clear σ  r τ) : sf_Mi l yX7_clear wsX7_clear ({ frames := 0, cells := 0, slots := 0, locals := 0 }) D vwCl q dA KM sf_EM [.ref (q 0)] σ r τ := by
  refine sf_meti (cc := cX7_clear) (maxL := 2) (ret := (some .int)) (own := RX7) (by decide +kernel) rfl rfl hq sf_EMk (Nat.le_of_ble_eq_true rfl) ?_
  intro p e s m args below meth c X
  unfold R_X7_clear at h
  refine sf_loc (lv' := [(0, .ref (q 0))]) [0] rfl ?_
  refine sf_aload_n (i := 0) (j := 0) X dX7_clear_0 rfl rfl rfl ?_
  refine sf_getI (C := RX7) (T := TX7) (N := 23) (ci := 7) (j := 0) X (fun w h => sf_memc (inX7 w h)) rfl rfl (by decide) (X.1.2.2.2.2 _ (sf_memc tw_631)) (fun _ h9 => h9) rfl dX7_clear_1 rfl ?_
  refine sf_top (fun y1 hy1 => ?_)
  have h := h y1 hy1
  refine sf_istore_n (i := 1) (lv' := [(1, .int y1), (0, .ref (q 0))]) X dX7_clear_4 rfl (by decide) rfl rfl ?_
  refine sf_aload_n (i := 0) (j := 1) X dX7_clear_5 rfl rfl rfl ?_
  refine sf_iconst (v := 0) X dX7_clear_6 sf_ic_0 rfl ?_
  refine sf_putI (C := RX7) (T := TX7) (N := 23) (ci := 7) (j := 0) (ty := .int) X (fun w h => sf_memc (inX7 w h)) rfl rfl (by decide) (X.1.2.2.2.2 _ (sf_memc tw_631)) (fun _ h9 => h9) tyX7 tyX7_ok nmX7 rfl (by decide +kernel) rfl rfl rfl dX7_clear_7 rfl (fun τ2 hτ2 => ?_)
  have h := h τ2 hτ2
  refine sf_aload_n (i := 0) (j := 1) X dX7_clear_10 rfl rfl rfl ?_
  refine sf_iconst (v := 0) X dX7_clear_11 sf_ic_0 rfl ?_
  refine sf_putI (C := RX7) (T := TX7) (N := 23) (ci := 7) (j := 4) (ty := .int) X (fun w h => sf_memc (inX7 w h)) rfl rfl (by decide) (X.1.2.2.2.2 _ (sf_memc tw_635)) (fun _ h9 => h9) tyX7 tyX7_ok nmX7 rfl (by decide +kernel) rfl rfl rfl dX7_clear_12 rfl (fun τ3 hτ3 => ?_)
  have h := h τ3 hτ3
  refine sf_aload_n (i := 0) (j := 1) X dX7_clear_15 rfl rfl rfl ?_
  refine sf_iconst (v := 0) X dX7_clear_16 sf_ic_0 rfl ?_
  refine sf_putI (C := RX7) (T := TX7) (N := 23) (ci := 7) (j := 11) (ty := .boolean) X (fun w h => sf_memc (inX7 w h)) rfl rfl (by decide) (X.1.2.2.2.2 _ (sf_memc tw_642)) (fun _ h9 => h9) tyX7 tyX7_ok nmX7 rfl (by decide +kernel) rfl rfl rfl dX7_clear_17 rfl (fun τ4 hτ4 => ?_)
  have h := h τ4 hτ4
  refine sf_iload_n (i := 1) (j := 0) X dX7_clear_20 rfl rfl rfl ?_
  exact sf_reti X h dX7_clear_21
def tr_R_X7_flip_0 (Pr : Nat → sf_St → Int32 → Int32 → Prop) (r : Int32) (τ : sf_St) (σ : sf_St) (u0 u1 : Int32) : Prop :=
  Pr 1 σ (0 : Int32) (0 : Int32)
def tr_R_X7_flip_1 (Pr : Nat → sf_St → Int32 → Int32 → Prop) (r : Int32) (τ : sf_St) (σ : sf_St) (u0 u1 : Int32) : Prop :=
  if (σ 0 4) ≤ u1 then (r = u0 ∧ τ = σ) else (vp_in u1 9 ∧ (if (σ 7 (sf_ix u1)) ≤ (0 : Int32) then (∀ y4 : Int32, y4 = (u0 + (0 : Int32)) → (vp_in u1 9 ∧ (if (σ 7 (sf_ix u1)) ≤ (0 : Int32) then (vp_in u1 9 ∧ (∀ τ8 : sf_St, τ8 = sf_up σ 7 (sf_ix u1) (0 : Int32) → (∀ y9 : Int32, y9 = u1 + (1 : Int32) → (Pr 1 τ8 y4 y9)))) else (vp_in u1 9 ∧ (vp_in u1 9 ∧ (∀ τ12 : sf_St, τ12 = sf_up σ 7 (sf_ix u1) ((3 : Int32) - (σ 7 (sf_ix u1))) → (∀ y13 : Int32, y13 = u1 + (1 : Int32) → (Pr 1 τ12 y4 y13)))))))) else (∀ y14 : Int32, y14 = (u0 + (1 : Int32)) → (vp_in u1 9 ∧ (if (σ 7 (sf_ix u1)) ≤ (0 : Int32) then (vp_in u1 9 ∧ (∀ τ18 : sf_St, τ18 = sf_up σ 7 (sf_ix u1) (0 : Int32) → (∀ y19 : Int32, y19 = u1 + (1 : Int32) → (Pr 1 τ18 y14 y19)))) else (vp_in u1 9 ∧ (vp_in u1 9 ∧ (∀ τ22 : sf_St, τ22 = sf_up σ 7 (sf_ix u1) ((3 : Int32) - (σ 7 (sf_ix u1))) → (∀ y23 : Int32, y23 = u1 + (1 : Int32) → (Pr 1 τ22 y14 y23))))))))))
def fn_R_X7_flip (Pr : Nat → sf_St → Int32 → Int32 → Prop) (r : Int32) (τ : sf_St) (t : Nat) (σ : sf_St) (u0 u1 : Int32) : Prop := match t with
  | 0 => tr_R_X7_flip_0 Pr r τ σ u0 u1
  | 1 => tr_R_X7_flip_1 Pr r τ σ u0 u1
  | _ => False
def Rn_R_X7_flip (t : Nat) (σ : sf_St) (u0 u1 : Int32) (r : Int32) (τ : sf_St) : Prop := ∀ Pr : Nat → sf_St → Int32 → Int32 → Prop, (∀ (t : Nat) (σ : sf_St) (u0 u1 : Int32), fn_R_X7_flip Pr r τ t σ u0 u1 → Pr t σ u0 u1) → Pr t σ u0 u1
def R_X7_flip (σ : sf_St) (r : Int32) (τ : sf_St) : Prop := Rn_R_X7_flip 0 σ  0 0 r τ
theorem fe_R_X7_flip_0 {Pr : Nat → sf_St → Int32 → Int32 → Prop} {r : Int32} {τ σ : sf_St} {u0 u1 : Int32} (h : fn_R_X7_flip Pr r τ 0 σ u0 u1) : tr_R_X7_flip_0 Pr r τ σ u0 u1 := h
theorem mo_R_X7_flip_0 {Pr Pr' : Nat → sf_St → Int32 → Int32 → Prop} {r : Int32} {τ σ : sf_St} {u0 u1 : Int32} (hP : ∀ (t : Nat) (σ : sf_St) (u0 u1 : Int32), Pr t σ u0 u1 → Pr' t σ u0 u1) (h : tr_R_X7_flip_0 Pr r τ σ u0 u1) : tr_R_X7_flip_0 Pr' r τ σ u0 u1 := by
  unfold tr_R_X7_flip_0 at h ⊢
  exact hP _ _ _ _ h
theorem ru_R_X7_flip_0 {r : Int32} {τ σ : sf_St} {u0 u1 : Int32} (h : tr_R_X7_flip_0 (fun t σ u0 u1 => Rn_R_X7_flip t σ u0 u1 r τ) r τ σ u0 u1) : Rn_R_X7_flip 0 σ u0 u1 r τ := fun Pr hP => hP 0 σ u0 u1 (mo_R_X7_flip_0 (fun _ _ _ _ h => h Pr hP) h)
theorem fe_R_X7_flip_1 {Pr : Nat → sf_St → Int32 → Int32 → Prop} {r : Int32} {τ σ : sf_St} {u0 u1 : Int32} (h : fn_R_X7_flip Pr r τ 1 σ u0 u1) : tr_R_X7_flip_1 Pr r τ σ u0 u1 := h
theorem mo_R_X7_flip_1 {Pr Pr' : Nat → sf_St → Int32 → Int32 → Prop} {r : Int32} {τ σ : sf_St} {u0 u1 : Int32} (hP : ∀ (t : Nat) (σ : sf_St) (u0 u1 : Int32), Pr t σ u0 u1 → Pr' t σ u0 u1) (h : tr_R_X7_flip_1 Pr r τ σ u0 u1) : tr_R_X7_flip_1 Pr' r τ σ u0 u1 := by
  unfold tr_R_X7_flip_1 at h ⊢
  refine sf_mif (fun h => ?_) (fun h => ?_) h
  · exact h
  · refine And.imp id (fun h => ?_) h
    refine sf_mif (fun h => ?_) (fun h => ?_) h
    · intro y4 hy4
      have h := h y4 hy4
      refine And.imp id (fun h => ?_) h
      refine sf_mif (fun h => ?_) (fun h => ?_) h
      · refine And.imp id (fun h => ?_) h
        intro τ8 hτ8
        have h := h τ8 hτ8
        intro y9 hy9
        have h := h y9 hy9
        exact hP _ _ _ _ h
      · refine And.imp id (fun h => ?_) h
        refine And.imp id (fun h => ?_) h
        intro τ12 hτ12
        have h := h τ12 hτ12
        intro y13 hy13
        have h := h y13 hy13
        exact hP _ _ _ _ h
    · intro y14 hy14
      have h := h y14 hy14
      refine And.imp id (fun h => ?_) h
      refine sf_mif (fun h => ?_) (fun h => ?_) h
      · refine And.imp id (fun h => ?_) h
        intro τ18 hτ18
        have h := h τ18 hτ18
        intro y19 hy19
        have h := h y19 hy19
        exact hP _ _ _ _ h
      · refine And.imp id (fun h => ?_) h
        refine And.imp id (fun h => ?_) h
        intro τ22 hτ22
        have h := h τ22 hτ22
        intro y23 hy23
        have h := h y23 hy23
        exact hP _ _ _ _ h
theorem ru_R_X7_flip_1 {r : Int32} {τ σ : sf_St} {u0 u1 : Int32} (h : tr_R_X7_flip_1 (fun t σ u0 u1 => Rn_R_X7_flip t σ u0 u1 r τ) r τ σ u0 u1) : Rn_R_X7_flip 1 σ u0 u1 r τ := fun Pr hP => hP 1 σ u0 u1 (mo_R_X7_flip_1 (fun _ _ _ _ h => h Pr hP) h)
set_option maxHeartbeats 4000000 in
set_option maxRecDepth 100000 in
theorem c_X7_flip {l : Launch} {D : va_G} {q : Nat → Nat} {dA : Nat → ClassId}  (hq : sf_inj q KM) {σ τ : sf_St} {r : Int32} (h : R_X7_flip σ  r τ) : sf_Mi l yX7_flip wsX7_flip ({ frames := 0, cells := 0, slots := 0, locals := 0 }) D vwCl q dA KM sf_EM [.ref (q 0)] σ r τ := by
  refine sf_meti (cc := cX7_flip) (maxL := 3) (ret := (some .int)) (own := RX7) (by decide +kernel) rfl rfl hq sf_EMk (Nat.le_of_ble_eq_true rfl) ?_
  intro p e s m args below meth c X
  refine sf_loc (lv' := [(0, .ref (q 0))]) [0] rfl ?_
  refine h (fun t σ u0 u1 => match t with
    | 0 => sf_G p l e (headSpec wsX7_flip ({ frames := 0, cells := 0, slots := 0, locals := 0 })).room s m args below meth c (sf_Qi D vwCl q dA KM sf_EM below args s r τ) 3 D vwCl q dA KM σ 0 [(0, .ref (q 0))] []
    | 1 => sf_G p l e (headSpec wsX7_flip ({ frames := 0, cells := 0, slots := 0, locals := 0 })).room s m args below meth c (sf_Qi D vwCl q dA KM sf_EM below args s r τ) 3 D vwCl q dA KM σ 4 [(0, .ref (q 0)), (1, .int u0), (2, .int u1)] []
    | _ => True) ?_
  intro t σ u0 u1 h
  match t, h with
  | 0, h =>
      replace h := fe_R_X7_flip_0 h
      unfold tr_R_X7_flip_0 at h
      show sf_G p l e (headSpec wsX7_flip ({ frames := 0, cells := 0, slots := 0, locals := 0 })).room s m args below meth c (sf_Qi D vwCl q dA KM sf_EM below args s r τ) 3 D vwCl q dA KM σ 0 [(0, .ref (q 0))] []
      refine sf_iconst (v := 0) X dX7_flip_0 sf_ic_0 rfl ?_
      refine sf_istore_n (i := 1) (lv' := [(1, .int (0 : Int32)), (0, .ref (q 0))]) X dX7_flip_1 rfl (by decide) rfl rfl ?_
      refine sf_iconst (v := 0) X dX7_flip_2 sf_ic_0 rfl ?_
      refine sf_istore_n (i := 2) (lv' := [(2, .int (0 : Int32)), (1, .int (0 : Int32)), (0, .ref (q 0))]) X dX7_flip_3 rfl (by decide) rfl rfl ?_
      refine sf_loc (lv' := [(0, .ref (q 0)), (1, .int (0 : Int32)), (2, .int (0 : Int32))]) [2, 1, 0] rfl ?_
      exact h
  | 1, h =>
      replace h := fe_R_X7_flip_1 h
      unfold tr_R_X7_flip_1 at h
      show sf_G p l e (headSpec wsX7_flip ({ frames := 0, cells := 0, slots := 0, locals := 0 })).room s m args below meth c (sf_Qi D vwCl q dA KM sf_EM below args s r τ) 3 D vwCl q dA KM σ 4 [(0, .ref (q 0)), (1, .int u0), (2, .int u1)] []
      refine sf_iload_n (i := 2) (j := 2) X dX7_flip_4 rfl rfl rfl ?_
      refine sf_aload_n (i := 0) (j := 0) X dX7_flip_5 rfl rfl rfl ?_
      refine sf_getI (C := RX7) (T := TX7) (N := 23) (ci := 7) (j := 4) X (fun w h => sf_memc (inX7 w h)) rfl rfl (by decide) (X.1.2.2.2.2 _ (sf_memc tw_635)) (fun _ h9 => h9) rfl dX7_flip_6 rfl ?_
      refine sf_icmp_ge (tgt := 62) X dX7_flip_9 rfl rfl (fun c1 => ?_) (fun c1 => ?_)
      · have h := sf_ift c1 h
        refine sf_iload_n (i := 1) (j := 1) X dX7_flip_62 rfl rfl rfl ?_
        exact sf_reti X h dX7_flip_63
      · have h := sf_iff c1 h
        refine sf_iload_n (i := 1) (j := 1) X dX7_flip_12 rfl rfl rfl ?_
        refine sf_aload_n (i := 0) (j := 0) X dX7_flip_13 rfl rfl rfl ?_
        refine sf_getR (C := RX7) (T := TX7) (N := 23) (ci := 7) (j := 8) (k' := 7) X (fun w h => sf_memc (inX7 w h)) rfl rfl (by decide) (X.1.2.2.2.2 _ (sf_memc tw_639)) (fun _ h9 => h9) rfl dX7_flip_14 rfl ?_
        refine sf_iload_n (i := 2) (j := 2) X dX7_flip_17 rfl rfl rfl ?_
        obtain ⟨b2, h⟩ := h
        refine sf_iald X rfl b2 dX7_flip_18 rfl ?_
        refine sf_if_le (tgt := 26) X dX7_flip_19 rfl rfl (fun c3 => ?_) (fun c3 => ?_)
        · have h := sf_ift c3 h
          refine sf_iconst (v := 0) X dX7_flip_26 sf_ic_0 rfl ?_
          refine sf_iadd X dX7_flip_27 rfl ?_
          refine sf_top (fun y4 hy4 => ?_)
          have h := h y4 hy4
          refine sf_istore_n (i := 1) (lv' := [(1, .int y4), (0, .ref (q 0)), (2, .int u1)]) X dX7_flip_28 rfl (by decide) rfl rfl ?_
          refine sf_aload_n (i := 0) (j := 1) X dX7_flip_29 rfl rfl rfl ?_
          refine sf_getR (C := RX7) (T := TX7) (N := 23) (ci := 7) (j := 8) (k' := 7) X (fun w h => sf_memc (inX7 w h)) rfl rfl (by decide) (X.1.2.2.2.2 _ (sf_memc tw_639)) (fun _ h9 => h9) rfl dX7_flip_30 rfl ?_
          refine sf_iload_n (i := 2) (j := 2) X dX7_flip_33 rfl rfl rfl ?_
          refine sf_aload_n (i := 0) (j := 1) X dX7_flip_34 rfl rfl rfl ?_
          refine sf_getR (C := RX7) (T := TX7) (N := 23) (ci := 7) (j := 8) (k' := 7) X (fun w h => sf_memc (inX7 w h)) rfl rfl (by decide) (X.1.2.2.2.2 _ (sf_memc tw_639)) (fun _ h9 => h9) rfl dX7_flip_35 rfl ?_
          refine sf_iload_n (i := 2) (j := 2) X dX7_flip_38 rfl rfl rfl ?_
          obtain ⟨b5, h⟩ := h
          refine sf_iald X rfl b5 dX7_flip_39 rfl ?_
          refine sf_if_le (tgt := 54) X dX7_flip_40 rfl rfl (fun c6 => ?_) (fun c6 => ?_)
          · have h := sf_ift c6 h
            refine sf_iconst (v := 0) X dX7_flip_54 sf_ic_0 rfl ?_
            obtain ⟨b7, h⟩ := h
            refine sf_iast X rfl b7 dX7_flip_55 rfl (fun τ8 hτ8 => ?_)
            have h := h τ8 hτ8
            refine sf_iinc (i := 2) (j := 2) (d := 1) (lv' := fun y9 => [(2, .int y9), (1, .int y4), (0, .ref (q 0))]) X dX7_flip_56 rfl sf_ic_1 (by decide) (fun _ => rfl) rfl (fun y9 hy9 => ?_)
            have h := h y9 hy9
            refine sf_goto (tgt := 4) X dX7_flip_59 rfl ?_
            refine sf_loc (lv' := [(0, .ref (q 0)), (1, .int y4), (2, .int y9)]) [2, 1, 0] rfl ?_
            exact h
          · have h := sf_iff c6 h
            refine sf_iconst (v := 3) X dX7_flip_43 sf_ic_3 rfl ?_
            refine sf_aload_n (i := 0) (j := 1) X dX7_flip_44 rfl rfl rfl ?_
            refine sf_getR (C := RX7) (T := TX7) (N := 23) (ci := 7) (j := 8) (k' := 7) X (fun w h => sf_memc (inX7 w h)) rfl rfl (by decide) (X.1.2.2.2.2 _ (sf_memc tw_639)) (fun _ h9 => h9) rfl dX7_flip_45 rfl ?_
            refine sf_iload_n (i := 2) (j := 2) X dX7_flip_48 rfl rfl rfl ?_
            obtain ⟨b10, h⟩ := h
            refine sf_iald X rfl b10 dX7_flip_49 rfl ?_
            refine sf_isub X dX7_flip_50 rfl ?_
            refine sf_goto (tgt := 55) X dX7_flip_51 rfl ?_
            obtain ⟨b11, h⟩ := h
            refine sf_iast X rfl b11 dX7_flip_55 rfl (fun τ12 hτ12 => ?_)
            have h := h τ12 hτ12
            refine sf_iinc (i := 2) (j := 2) (d := 1) (lv' := fun y13 => [(2, .int y13), (1, .int y4), (0, .ref (q 0))]) X dX7_flip_56 rfl sf_ic_1 (by decide) (fun _ => rfl) rfl (fun y13 hy13 => ?_)
            have h := h y13 hy13
            refine sf_goto (tgt := 4) X dX7_flip_59 rfl ?_
            refine sf_loc (lv' := [(0, .ref (q 0)), (1, .int y4), (2, .int y13)]) [2, 1, 0] rfl ?_
            exact h
        · have h := sf_iff c3 h
          refine sf_iconst (v := 1) X dX7_flip_22 sf_ic_1 rfl ?_
          refine sf_goto (tgt := 27) X dX7_flip_23 rfl ?_
          refine sf_iadd X dX7_flip_27 rfl ?_
          refine sf_top (fun y14 hy14 => ?_)
          have h := h y14 hy14
          refine sf_istore_n (i := 1) (lv' := [(1, .int y14), (0, .ref (q 0)), (2, .int u1)]) X dX7_flip_28 rfl (by decide) rfl rfl ?_
          refine sf_aload_n (i := 0) (j := 1) X dX7_flip_29 rfl rfl rfl ?_
          refine sf_getR (C := RX7) (T := TX7) (N := 23) (ci := 7) (j := 8) (k' := 7) X (fun w h => sf_memc (inX7 w h)) rfl rfl (by decide) (X.1.2.2.2.2 _ (sf_memc tw_639)) (fun _ h9 => h9) rfl dX7_flip_30 rfl ?_
          refine sf_iload_n (i := 2) (j := 2) X dX7_flip_33 rfl rfl rfl ?_
          refine sf_aload_n (i := 0) (j := 1) X dX7_flip_34 rfl rfl rfl ?_
          refine sf_getR (C := RX7) (T := TX7) (N := 23) (ci := 7) (j := 8) (k' := 7) X (fun w h => sf_memc (inX7 w h)) rfl rfl (by decide) (X.1.2.2.2.2 _ (sf_memc tw_639)) (fun _ h9 => h9) rfl dX7_flip_35 rfl ?_
          refine sf_iload_n (i := 2) (j := 2) X dX7_flip_38 rfl rfl rfl ?_
          obtain ⟨b15, h⟩ := h
          refine sf_iald X rfl b15 dX7_flip_39 rfl ?_
          refine sf_if_le (tgt := 54) X dX7_flip_40 rfl rfl (fun c16 => ?_) (fun c16 => ?_)
          · have h := sf_ift c16 h
            refine sf_iconst (v := 0) X dX7_flip_54 sf_ic_0 rfl ?_
            obtain ⟨b17, h⟩ := h
            refine sf_iast X rfl b17 dX7_flip_55 rfl (fun τ18 hτ18 => ?_)
            have h := h τ18 hτ18
            refine sf_iinc (i := 2) (j := 2) (d := 1) (lv' := fun y19 => [(2, .int y19), (1, .int y14), (0, .ref (q 0))]) X dX7_flip_56 rfl sf_ic_1 (by decide) (fun _ => rfl) rfl (fun y19 hy19 => ?_)
            have h := h y19 hy19
            refine sf_goto (tgt := 4) X dX7_flip_59 rfl ?_
            refine sf_loc (lv' := [(0, .ref (q 0)), (1, .int y14), (2, .int y19)]) [2, 1, 0] rfl ?_
            exact h
          · have h := sf_iff c16 h
            refine sf_iconst (v := 3) X dX7_flip_43 sf_ic_3 rfl ?_
            refine sf_aload_n (i := 0) (j := 1) X dX7_flip_44 rfl rfl rfl ?_
            refine sf_getR (C := RX7) (T := TX7) (N := 23) (ci := 7) (j := 8) (k' := 7) X (fun w h => sf_memc (inX7 w h)) rfl rfl (by decide) (X.1.2.2.2.2 _ (sf_memc tw_639)) (fun _ h9 => h9) rfl dX7_flip_45 rfl ?_
            refine sf_iload_n (i := 2) (j := 2) X dX7_flip_48 rfl rfl rfl ?_
            obtain ⟨b20, h⟩ := h
            refine sf_iald X rfl b20 dX7_flip_49 rfl ?_
            refine sf_isub X dX7_flip_50 rfl ?_
            refine sf_goto (tgt := 55) X dX7_flip_51 rfl ?_
            obtain ⟨b21, h⟩ := h
            refine sf_iast X rfl b21 dX7_flip_55 rfl (fun τ22 hτ22 => ?_)
            have h := h τ22 hτ22
            refine sf_iinc (i := 2) (j := 2) (d := 1) (lv' := fun y23 => [(2, .int y23), (1, .int y14), (0, .ref (q 0))]) X dX7_flip_56 rfl sf_ic_1 (by decide) (fun _ => rfl) rfl (fun y23 hy23 => ?_)
            have h := h y23 hy23
            refine sf_goto (tgt := 4) X dX7_flip_59 rfl ?_
            refine sf_loc (lv' := [(0, .ref (q 0)), (1, .int y14), (2, .int y23)]) [2, 1, 0] rfl ?_
            exact h
  | (_ + 2), _ => exact trivial
