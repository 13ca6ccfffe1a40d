def R_X7_side (σ : sf_St) (u0 u1 u2 : Int32) (r : Int32) (τ : sf_St) : Prop :=
  vp_in u1 7 ∧ (vp_in u0 7 ∧ (vp_in u2 7 ∧ (vp_in u0 7 ∧ (vp_in u1 7 ∧ (vp_in u0 7 ∧ (vp_in u2 7 ∧ (vp_in u0 7 ∧ (∃ (r11 : Int32) (τ10 : sf_St), R_X7_sign σ ((((σ 2 (sf_ix u1)) - (σ 2 (sf_ix u0))) * ((σ 3 (sf_ix u2)) - (σ 3 (sf_ix u0)))) - (((σ 3 (sf_ix u1)) - (σ 3 (sf_ix u0))) * ((σ 2 (sf_ix u2)) - (σ 2 (sf_ix u0))))) r11 τ10 ∧ (r = r11 ∧ τ = τ10)))))))))
set_option maxHeartbeats 4000000 in
set_option maxRecDepth 100000 in
theorem c_X7_side {l : Launch} {D : va_G} {q : Nat → Nat} {dA : Nat → ClassId}  (hq : sf_inj q KM) {σ τ : sf_St} {u0 u1 u2 : Int32} {r : Int32} (h : R_X7_side σ u0 u1 u2 r τ) : sf_Mi l yX7_side wsX7_side ({ frames := 1, cells := 0, slots := 0, locals := 20 }) D vwCl q dA KM sf_EM [.ref (q 0), .int u0, .int u1, .int u2] σ r τ := by
  refine sf_meti (cc := cX7_side) (maxL := 4) (ret := (some .int)) (own := RX7) (by decide +kernel) rfl rfl hq sf_EMk (Nat.le_of_ble_eq_true rfl) ?_
  intro p e s m args below meth c X
  unfold R_X7_side at h
  refine sf_loc (lv' := [(0, .ref (q 0)), (1, .int u0), (2, .int u1), (3, .int u2)]) [0, 1, 2, 3] rfl ?_
  refine sf_aload_n (i := 0) (j := 0) X dX7_side_0 rfl rfl rfl ?_
  refine sf_getR (C := RX7) (T := TX7) (N := 23) (ci := 7) (j := 2) (k' := 2) X (fun w h => sf_memc (inX7 w h)) rfl rfl (by decide) (X.1.2.2.2.2 _ (sf_memc tw_633)) (fun _ h9 => h9) rfl dX7_side_1 rfl ?_
  refine sf_iload_n (i := 2) (j := 2) X dX7_side_4 rfl rfl rfl ?_
  obtain ⟨b1, h⟩ := h
  refine sf_iald X rfl b1 dX7_side_5 rfl ?_
  refine sf_aload_n (i := 0) (j := 0) X dX7_side_6 rfl rfl rfl ?_
  refine sf_getR (C := RX7) (T := TX7) (N := 23) (ci := 7) (j := 2) (k' := 2) X (fun w h => sf_memc (inX7 w h)) rfl rfl (by decide) (X.1.2.2.2.2 _ (sf_memc tw_633)) (fun _ h9 => h9) rfl dX7_side_7 rfl ?_
  refine sf_iload_n (i := 1) (j := 1) X dX7_side_10 rfl rfl rfl ?_
  obtain ⟨b2, h⟩ := h
  refine sf_iald X rfl b2 dX7_side_11 rfl ?_
  refine sf_isub X dX7_side_12 rfl ?_
  refine sf_aload_n (i := 0) (j := 0) X dX7_side_13 rfl rfl rfl ?_
  refine sf_getR (C := RX7) (T := TX7) (N := 23) (ci := 7) (j := 3) (k' := 3) X (fun w h => sf_memc (inX7 w h)) rfl rfl (by decide) (X.1.2.2.2.2 _ (sf_memc tw_634)) (fun _ h9 => h9) rfl dX7_side_14 rfl ?_
  refine sf_iload_n (i := 3) (j := 3) X dX7_side_17 rfl rfl rfl ?_
  obtain ⟨b3, h⟩ := h
  refine sf_iald X rfl b3 dX7_side_18 rfl ?_
  refine sf_aload_n (i := 0) (j := 0) X dX7_side_19 rfl rfl rfl ?_
  refine sf_getR (C := RX7) (T := TX7) (N := 23) (ci := 7) (j := 3) (k' := 3) X (fun w h => sf_memc (inX7 w h)) rfl rfl (by decide) (X.1.2.2.2.2 _ (sf_memc tw_634)) (fun _ h9 => h9) rfl dX7_side_20 rfl ?_
  refine sf_iload_n (i := 1) (j := 1) X dX7_side_23 rfl rfl rfl ?_
  obtain ⟨b4, h⟩ := h
  refine sf_iald X rfl b4 dX7_side_24 rfl ?_
  refine sf_isub X dX7_side_25 rfl ?_
  refine sf_imul X dX7_side_26 rfl ?_
  refine sf_aload_n (i := 0) (j := 0) X dX7_side_27 rfl rfl rfl ?_
  refine sf_getR (C := RX7) (T := TX7) (N := 23) (ci := 7) (j := 3) (k' := 3) X (fun w h => sf_memc (inX7 w h)) rfl rfl (by decide) (X.1.2.2.2.2 _ (sf_memc tw_634)) (fun _ h9 => h9) rfl dX7_side_28 rfl ?_
  refine sf_iload_n (i := 2) (j := 2) X dX7_side_31 rfl rfl rfl ?_
  obtain ⟨b5, h⟩ := h
  refine sf_iald X rfl b5 dX7_side_32 rfl ?_
  refine sf_aload_n (i := 0) (j := 0) X dX7_side_33 rfl rfl rfl ?_
  refine sf_getR (C := RX7) (T := TX7) (N := 23) (ci := 7) (j := 3) (k' := 3) X (fun w h => sf_memc (inX7 w h)) rfl rfl (by decide) (X.1.2.2.2.2 _ (sf_memc tw_634)) (fun _ h9 => h9) rfl dX7_side_34 rfl ?_
  refine sf_iload_n (i := 1) (j := 1) X dX7_side_37 rfl rfl rfl ?_
  obtain ⟨b6, h⟩ := h
  refine sf_iald X rfl b6 dX7_side_38 rfl ?_
  refine sf_isub X dX7_side_39 rfl ?_
  refine sf_aload_n (i := 0) (j := 0) X dX7_side_40 rfl rfl rfl ?_
  refine sf_getR (C := RX7) (T := TX7) (N := 23) (ci := 7) (j := 2) (k' := 2) X (fun w h => sf_memc (inX7 w h)) rfl rfl (by decide) (X.1.2.2.2.2 _ (sf_memc tw_633)) (fun _ h9 => h9) rfl dX7_side_41 rfl ?_
  refine sf_iload_n (i := 3) (j := 3) X dX7_side_44 rfl rfl rfl ?_
  obtain ⟨b7, h⟩ := h
  refine sf_iald X rfl b7 dX7_side_45 rfl ?_
  refine sf_aload_n (i := 0) (j := 0) X dX7_side_46 rfl rfl rfl ?_
  refine sf_getR (C := RX7) (T := TX7) (N := 23) (ci := 7) (j := 2) (k' := 2) X (fun w h => sf_memc (inX7 w h)) rfl rfl (by decide) (X.1.2.2.2.2 _ (sf_memc tw_633)) (fun _ h9 => h9) rfl dX7_side_47 rfl ?_
  refine sf_iload_n (i := 1) (j := 1) X dX7_side_50 rfl rfl rfl ?_
  obtain ⟨b8, h⟩ := h
  refine sf_iald X rfl b8 dX7_side_51 rfl ?_
  refine sf_isub X dX7_side_52 rfl ?_
  refine sf_imul X dX7_side_53 rfl ?_
  refine sf_isub X dX7_side_54 rfl ?_
  obtain ⟨r11, τ10, hR9, h⟩ := h
  refine sf_callSi (As := [.int ((((σ 2 (sf_ix u1)) - (σ 2 (sf_ix u0))) * ((σ 3 (sf_ix u2)) - (σ 3 (sf_ix u0)))) - (((σ 3 (sf_ix u1)) - (σ 3 (sf_ix u0))) * ((σ 2 (sf_ix u2)) - (σ 2 (sf_ix u0)))))]) (rest := []) X (c_X7_sign hq hR9) (va_cwS 1 X.1.2.2.2.2 (sf_gS tw_775 tw_776 tw_48 tw_777) rfl rfl rfl hd_X7_sign ⟨Nat.le_of_ble_eq_true rfl, Nat.le_of_ble_eq_true rfl⟩) rfl rfl (Nat.le_of_ble_eq_true rfl) dX7_side_55 rfl ?_
  exact sf_reti X h dX7_side_58
def tr_R_X7_isClear_0 (Pr : Nat → sf_St → Int32 → Int32 → Int32 → Int32 → Int32 → Int32 → Int32 → Int32 → Prop) (r : Int32) (τ : sf_St) (σ : sf_St) (u0 u1 u2 u3 u4 u5 u6 u7 : Int32) : Prop :=
  Pr 1 σ u0 u1 u2 u3 (0 : Int32) (0 : Int32) (0 : Int32) (0 : Int32)
def tr_R_X7_isClear_1 (Pr : Nat → sf_St → Int32 → Int32 → Int32 → Int32 → Int32 → Int32 → Int32 → Int32 → Prop) (r : Int32) (τ : sf_St) (σ : sf_St) (u0 u1 u2 u3 u4 u5 u6 u7 : Int32) : Prop :=
  if (σ 0 4) ≤ u7 then (if u6 = (0 : Int32) then (if (2 : Int32) ≤ u4 then (r = (0 : Int32) ∧ τ = σ) else (if (2 : Int32) ≤ u5 then (r = (0 : Int32) ∧ τ = σ) else (r = (1 : Int32) ∧ τ = σ))) else (r = (0 : Int32) ∧ τ = σ)) else (vp_in u7 9 ∧ (if (σ 4 (sf_ix u7)) = u2 then (vp_in u7 9 ∧ (∀ y136 : Int32, y136 = (σ 5 (sf_ix u7)) → (if y136 = u3 then (if (2 : Int32) = (1 : Int32) then (∀ y185 : Int32, y185 = (u4 + (1 : Int32)) → (if (2 : Int32) = (-1 : Int32) then (∀ y193 : Int32, y193 = (u5 + (1 : Int32)) → (if u6 = (0 : Int32) then (if (2 : Int32) = (0 : Int32) then (∀ y198 : Int32, y198 = u7 + (1 : Int32) → (Pr 1 σ u0 u1 u2 u3 y185 y193 (1 : Int32) y198)) else (∀ y197 : Int32, y197 = u7 + (1 : Int32) → (Pr 1 σ u0 u1 u2 u3 y185 y193 (0 : Int32) y197))) else (∀ y195 : Int32, y195 = u7 + (1 : Int32) → (Pr 1 σ u0 u1 u2 u3 y185 y193 (1 : Int32) y195)))) else (∀ y187 : Int32, y187 = (u5 + (0 : Int32)) → (if u6 = (0 : Int32) then (if (2 : Int32) = (0 : Int32) then (∀ y192 : Int32, y192 = u7 + (1 : Int32) → (Pr 1 σ u0 u1 u2 u3 y185 y187 (1 : Int32) y192)) else (∀ y191 : Int32, y191 = u7 + (1 : Int32) → (Pr 1 σ u0 u1 u2 u3 y185 y187 (0 : Int32) y191))) else (∀ y189 : Int32, y189 = u7 + (1 : Int32) → (Pr 1 σ u0 u1 u2 u3 y185 y187 (1 : Int32) y189)))))) else (∀ y171 : Int32, y171 = (u4 + (0 : Int32)) → (if (2 : Int32) = (-1 : Int32) then (∀ y179 : Int32, y179 = (u5 + (1 : Int32)) → (if u6 = (0 : Int32) then (if (2 : Int32) = (0 : Int32) then (∀ y184 : Int32, y184 = u7 + (1 : Int32) → (Pr 1 σ u0 u1 u2 u3 y171 y179 (1 : Int32) y184)) else (∀ y183 : Int32, y183 = u7 + (1 : Int32) → (Pr 1 σ u0 u1 u2 u3 y171 y179 (0 : Int32) y183))) else (∀ y181 : Int32, y181 = u7 + (1 : Int32) → (Pr 1 σ u0 u1 u2 u3 y171 y179 (1 : Int32) y181)))) else (∀ y173 : Int32, y173 = (u5 + (0 : Int32)) → (if u6 = (0 : Int32) then (if (2 : Int32) = (0 : Int32) then (∀ y178 : Int32, y178 = u7 + (1 : Int32) → (Pr 1 σ u0 u1 u2 u3 y171 y173 (1 : Int32) y178)) else (∀ y177 : Int32, y177 = u7 + (1 : Int32) → (Pr 1 σ u0 u1 u2 u3 y171 y173 (0 : Int32) y177))) else (∀ y175 : Int32, y175 = u7 + (1 : Int32) → (Pr 1 σ u0 u1 u2 u3 y171 y173 (1 : Int32) y175))))))) else (∃ (r140 : Int32) (τ139 : sf_St), R_X7_side σ u0 u1 y136 r140 τ139 ∧ (if r140 = (1 : Int32) then (∀ y156 : Int32, y156 = (u4 + (1 : Int32)) → (if r140 = (-1 : Int32) then (∀ y164 : Int32, y164 = (u5 + (1 : Int32)) → (if u6 = (0 : Int32) then (if r140 = (0 : Int32) then (∀ y169 : Int32, y169 = u7 + (1 : Int32) → (Pr 1 τ139 u0 u1 u2 u3 y156 y164 (1 : Int32) y169)) else (∀ y168 : Int32, y168 = u7 + (1 : Int32) → (Pr 1 τ139 u0 u1 u2 u3 y156 y164 (0 : Int32) y168))) else (∀ y166 : Int32, y166 = u7 + (1 : Int32) → (Pr 1 τ139 u0 u1 u2 u3 y156 y164 (1 : Int32) y166)))) else (∀ y158 : Int32, y158 = (u5 + (0 : Int32)) → (if u6 = (0 : Int32) then (if r140 = (0 : Int32) then (∀ y163 : Int32, y163 = u7 + (1 : Int32) → (Pr 1 τ139 u0 u1 u2 u3 y156 y158 (1 : Int32) y163)) else (∀ y162 : Int32, y162 = u7 + (1 : Int32) → (Pr 1 τ139 u0 u1 u2 u3 y156 y158 (0 : Int32) y162))) else (∀ y160 : Int32, y160 = u7 + (1 : Int32) → (Pr 1 τ139 u0 u1 u2 u3 y156 y158 (1 : Int32) y160)))))) else (∀ y142 : Int32, y142 = (u4 + (0 : Int32)) → (if r140 = (-1 : Int32) then (∀ y150 : Int32, y150 = (u5 + (1 : Int32)) → (if u6 = (0 : Int32) then (if r140 = (0 : Int32) then (∀ y155 : Int32, y155 = u7 + (1 : Int32) → (Pr 1 τ139 u0 u1 u2 u3 y142 y150 (1 : Int32) y155)) else (∀ y154 : Int32, y154 = u7 + (1 : Int32) → (Pr 1 τ139 u0 u1 u2 u3 y142 y150 (0 : Int32) y154))) else (∀ y152 : Int32, y152 = u7 + (1 : Int32) → (Pr 1 τ139 u0 u1 u2 u3 y142 y150 (1 : Int32) y152)))) else (∀ y144 : Int32, y144 = (u5 + (0 : Int32)) → (if u6 = (0 : Int32) then (if r140 = (0 : Int32) then (∀ y149 : Int32, y149 = u7 + (1 : Int32) → (Pr 1 τ139 u0 u1 u2 u3 y142 y144 (1 : Int32) y149)) else (∀ y148 : Int32, y148 = u7 + (1 : Int32) → (Pr 1 τ139 u0 u1 u2 u3 y142 y144 (0 : Int32) y148))) else (∀ y146 : Int32, y146 = u7 + (1 : Int32) → (Pr 1 τ139 u0 u1 u2 u3 y142 y144 (1 : Int32) y146))))))))))) else (vp_in u7 9 ∧ (if (σ 5 (sf_ix u7)) = u2 then (vp_in u7 9 ∧ (∀ y72 : Int32, y72 = (σ 4 (sf_ix u7)) → (if y72 = u3 then (if (2 : Int32) = (1 : Int32) then (∀ y121 : Int32, y121 = (u4 + (1 : Int32)) → (if (2 : Int32) = (-1 : Int32) then (∀ y129 : Int32, y129 = (u5 + (1 : Int32)) → (if u6 = (0 : Int32) then (if (2 : Int32) = (0 : Int32) then (∀ y134 : Int32, y134 = u7 + (1 : Int32) → (Pr 1 σ u0 u1 u2 u3 y121 y129 (1 : Int32) y134)) else (∀ y133 : Int32, y133 = u7 + (1 : Int32) → (Pr 1 σ u0 u1 u2 u3 y121 y129 (0 : Int32) y133))) else (∀ y131 : Int32, y131 = u7 + (1 : Int32) → (Pr 1 σ u0 u1 u2 u3 y121 y129 (1 : Int32) y131)))) else (∀ y123 : Int32, y123 = (u5 + (0 : Int32)) → (if u6 = (0 : Int32) then (if (2 : Int32) = (0 : Int32) then (∀ y128 : Int32, y128 = u7 + (1 : Int32) → (Pr 1 σ u0 u1 u2 u3 y121 y123 (1 : Int32) y128)) else (∀ y127 : Int32, y127 = u7 + (1 : Int32) → (Pr 1 σ u0 u1 u2 u3 y121 y123 (0 : Int32) y127))) else (∀ y125 : Int32, y125 = u7 + (1 : Int32) → (Pr 1 σ u0 u1 u2 u3 y121 y123 (1 : Int32) y125)))))) else (∀ y107 : Int32, y107 = (u4 + (0 : Int32)) → (if (2 : Int32) = (-1 : Int32) then (∀ y115 : Int32, y115 = (u5 + (1 : Int32)) → (if u6 = (0 : Int32) then (if (2 : Int32) = (0 : Int32) then (∀ y120 : Int32, y120 = u7 + (1 : Int32) → (Pr 1 σ u0 u1 u2 u3 y107 y115 (1 : Int32) y120)) else (∀ y119 : Int32, y119 = u7 + (1 : Int32) → (Pr 1 σ u0 u1 u2 u3 y107 y115 (0 : Int32) y119))) else (∀ y117 : Int32, y117 = u7 + (1 : Int32) → (Pr 1 σ u0 u1 u2 u3 y107 y115 (1 : Int32) y117)))) else (∀ y109 : Int32, y109 = (u5 + (0 : Int32)) → (if u6 = (0 : Int32) then (if (2 : Int32) = (0 : Int32) then (∀ y114 : Int32, y114 = u7 + (1 : Int32) → (Pr 1 σ u0 u1 u2 u3 y107 y109 (1 : Int32) y114)) else (∀ y113 : Int32, y113 = u7 + (1 : Int32) → (Pr 1 σ u0 u1 u2 u3 y107 y109 (0 : Int32) y113))) else (∀ y111 : Int32, y111 = u7 + (1 : Int32) → (Pr 1 σ u0 u1 u2 u3 y107 y109 (1 : Int32) y111))))))) else (∃ (r76 : Int32) (τ75 : sf_St), R_X7_side σ u0 u1 y72 r76 τ75 ∧ (if r76 = (1 : Int32) then (∀ y92 : Int32, y92 = (u4 + (1 : Int32)) → (if r76 = (-1 : Int32) then (∀ y100 : Int32, y100 = (u5 + (1 : Int32)) → (if u6 = (0 : Int32) then (if r76 = (0 : Int32) then (∀ y105 : Int32, y105 = u7 + (1 : Int32) → (Pr 1 τ75 u0 u1 u2 u3 y92 y100 (1 : Int32) y105)) else (∀ y104 : Int32, y104 = u7 + (1 : Int32) → (Pr 1 τ75 u0 u1 u2 u3 y92 y100 (0 : Int32) y104))) else (∀ y102 : Int32, y102 = u7 + (1 : Int32) → (Pr 1 τ75 u0 u1 u2 u3 y92 y100 (1 : Int32) y102)))) else (∀ y94 : Int32, y94 = (u5 + (0 : Int32)) → (if u6 = (0 : Int32) then (if r76 = (0 : Int32) then (∀ y99 : Int32, y99 = u7 + (1 : Int32) → (Pr 1 τ75 u0 u1 u2 u3 y92 y94 (1 : Int32) y99)) else (∀ y98 : Int32, y98 = u7 + (1 : Int32) → (Pr 1 τ75 u0 u1 u2 u3 y92 y94 (0 : Int32) y98))) else (∀ y96 : Int32, y96 = u7 + (1 : Int32) → (Pr 1 τ75 u0 u1 u2 u3 y92 y94 (1 : Int32) y96)))))) else (∀ y78 : Int32, y78 = (u4 + (0 : Int32)) → (if r76 = (-1 : Int32) then (∀ y86 : Int32, y86 = (u5 + (1 : Int32)) → (if u6 = (0 : Int32) then (if r76 = (0 : Int32) then (∀ y91 : Int32, y91 = u7 + (1 : Int32) → (Pr 1 τ75 u0 u1 u2 u3 y78 y86 (1 : Int32) y91)) else (∀ y90 : Int32, y90 = u7 + (1 : Int32) → (Pr 1 τ75 u0 u1 u2 u3 y78 y86 (0 : Int32) y90))) else (∀ y88 : Int32, y88 = u7 + (1 : Int32) → (Pr 1 τ75 u0 u1 u2 u3 y78 y86 (1 : Int32) y88)))) else (∀ y80 : Int32, y80 = (u5 + (0 : Int32)) → (if u6 = (0 : Int32) then (if r76 = (0 : Int32) then (∀ y85 : Int32, y85 = u7 + (1 : Int32) → (Pr 1 τ75 u0 u1 u2 u3 y78 y80 (1 : Int32) y85)) else (∀ y84 : Int32, y84 = u7 + (1 : Int32) → (Pr 1 τ75 u0 u1 u2 u3 y78 y80 (0 : Int32) y84))) else (∀ y82 : Int32, y82 = u7 + (1 : Int32) → (Pr 1 τ75 u0 u1 u2 u3 y78 y80 (1 : Int32) y82))))))))))) else (if u3 = u3 then (if (2 : Int32) = (1 : Int32) then (∀ y57 : Int32, y57 = (u4 + (1 : Int32)) → (if (2 : Int32) = (-1 : Int32) then (∀ y65 : Int32, y65 = (u5 + (1 : Int32)) → (if u6 = (0 : Int32) then (if (2 : Int32) = (0 : Int32) then (∀ y70 : Int32, y70 = u7 + (1 : Int32) → (Pr 1 σ u0 u1 u2 u3 y57 y65 (1 : Int32) y70)) else (∀ y69 : Int32, y69 = u7 + (1 : Int32) → (Pr 1 σ u0 u1 u2 u3 y57 y65 (0 : Int32) y69))) else (∀ y67 : Int32, y67 = u7 + (1 : Int32) → (Pr 1 σ u0 u1 u2 u3 y57 y65 (1 : Int32) y67)))) else (∀ y59 : Int32, y59 = (u5 + (0 : Int32)) → (if u6 = (0 : Int32) then (if (2 : Int32) = (0 : Int32) then (∀ y64 : Int32, y64 = u7 + (1 : Int32) → (Pr 1 σ u0 u1 u2 u3 y57 y59 (1 : Int32) y64)) else (∀ y63 : Int32, y63 = u7 + (1 : Int32) → (Pr 1 σ u0 u1 u2 u3 y57 y59 (0 : Int32) y63))) else (∀ y61 : Int32, y61 = u7 + (1 : Int32) → (Pr 1 σ u0 u1 u2 u3 y57 y59 (1 : Int32) y61)))))) else (∀ y43 : Int32, y43 = (u4 + (0 : Int32)) → (if (2 : Int32) = (-1 : Int32) then (∀ y51 : Int32, y51 = (u5 + (1 : Int32)) → (if u6 = (0 : Int32) then (if (2 : Int32) = (0 : Int32) then (∀ y56 : Int32, y56 = u7 + (1 : Int32) → (Pr 1 σ u0 u1 u2 u3 y43 y51 (1 : Int32) y56)) else (∀ y55 : Int32, y55 = u7 + (1 : Int32) → (Pr 1 σ u0 u1 u2 u3 y43 y51 (0 : Int32) y55))) else (∀ y53 : Int32, y53 = u7 + (1 : Int32) → (Pr 1 σ u0 u1 u2 u3 y43 y51 (1 : Int32) y53)))) else (∀ y45 : Int32, y45 = (u5 + (0 : Int32)) → (if u6 = (0 : Int32) then (if (2 : Int32) = (0 : Int32) then (∀ y50 : Int32, y50 = u7 + (1 : Int32) → (Pr 1 σ u0 u1 u2 u3 y43 y45 (1 : Int32) y50)) else (∀ y49 : Int32, y49 = u7 + (1 : Int32) → (Pr 1 σ u0 u1 u2 u3 y43 y45 (0 : Int32) y49))) else (∀ y47 : Int32, y47 = u7 + (1 : Int32) → (Pr 1 σ u0 u1 u2 u3 y43 y45 (1 : Int32) y47))))))) else (∃ (r12 : Int32) (τ11 : sf_St), R_X7_side σ u0 u1 u3 r12 τ11 ∧ (if r12 = (1 : Int32) then (∀ y28 : Int32, y28 = (u4 + (1 : Int32)) → (if r12 = (-1 : Int32) then (∀ y36 : Int32, y36 = (u5 + (1 : Int32)) → (if u6 = (0 : Int32) then (if r12 = (0 : Int32) then (∀ y41 : Int32, y41 = u7 + (1 : Int32) → (Pr 1 τ11 u0 u1 u2 u3 y28 y36 (1 : Int32) y41)) else (∀ y40 : Int32, y40 = u7 + (1 : Int32) → (Pr 1 τ11 u0 u1 u2 u3 y28 y36 (0 : Int32) y40))) else (∀ y38 : Int32, y38 = u7 + (1 : Int32) → (Pr 1 τ11 u0 u1 u2 u3 y28 y36 (1 : Int32) y38)))) else (∀ y30 : Int32, y30 = (u5 + (0 : Int32)) → (if u6 = (0 : Int32) then (if r12 = (0 : Int32) then (∀ y35 : Int32, y35 = u7 + (1 : Int32) → (Pr 1 τ11 u0 u1 u2 u3 y28 y30 (1 : Int32) y35)) else (∀ y34 : Int32, y34 = u7 + (1 : Int32) → (Pr 1 τ11 u0 u1 u2 u3 y28 y30 (0 : Int32) y34))) else (∀ y32 : Int32, y32 = u7 + (1 : Int32) → (Pr 1 τ11 u0 u1 u2 u3 y28 y30 (1 : Int32) y32)))))) else (∀ y14 : Int32, y14 = (u4 + (0 : Int32)) → (if r12 = (-1 : Int32) then (∀ y22 : Int32, y22 = (u5 + (1 : Int32)) → (if u6 = (0 : Int32) then (if r12 = (0 : Int32) then (∀ y27 : Int32, y27 = u7 + (1 : Int32) → (Pr 1 τ11 u0 u1 u2 u3 y14 y22 (1 : Int32) y27)) else (∀ y26 : Int32, y26 = u7 + (1 : Int32) → (Pr 1 τ11 u0 u1 u2 u3 y14 y22 (0 : Int32) y26))) else (∀ y24 : Int32, y24 = u7 + (1 : Int32) → (Pr 1 τ11 u0 u1 u2 u3 y14 y22 (1 : Int32) y24)))) else (∀ y16 : Int32, y16 = (u5 + (0 : Int32)) → (if u6 = (0 : Int32) then (if r12 = (0 : Int32) then (∀ y21 : Int32, y21 = u7 + (1 : Int32) → (Pr 1 τ11 u0 u1 u2 u3 y14 y16 (1 : Int32) y21)) else (∀ y20 : Int32, y20 = u7 + (1 : Int32) → (Pr 1 τ11 u0 u1 u2 u3 y14 y16 (0 : Int32) y20))) else (∀ y18 : Int32, y18 = u7 + (1 : Int32) → (Pr 1 τ11 u0 u1 u2 u3 y14 y16 (1 : Int32) y18)))))))))))))
def fn_R_X7_isClear (Pr : Nat → sf_St → Int32 → Int32 → Int32 → Int32 → Int32 → Int32 → Int32 → Int32 → Prop) (r : Int32) (τ : sf_St) (t : Nat) (σ : sf_St) (u0 u1 u2 u3 u4 u5 u6 u7 : Int32) : Prop := match t with
  | 0 => tr_R_X7_isClear_0 Pr r τ σ u0 u1 u2 u3 u4 u5 u6 u7
  | 1 => tr_R_X7_isClear_1 Pr r τ σ u0 u1 u2 u3 u4 u5 u6 u7
  | _ => False
def Rn_R_X7_isClear (t : Nat) (σ : sf_St) (u0 u1 u2 u3 u4 u5 u6 u7 : Int32) (r : Int32) (τ : sf_St) : Prop := ∀ Pr : Nat → sf_St → Int32 → Int32 → Int32 → Int32 → Int32 → Int32 → Int32 → Int32 → Prop, (∀ (t : Nat) (σ : sf_St) (u0 u1 u2 u3 u4 u5 u6 u7 : Int32), fn_R_X7_isClear Pr r τ t σ u0 u1 u2 u3 u4 u5 u6 u7 → Pr t σ u0 u1 u2 u3 u4 u5 u6 u7) → Pr t σ u0 u1 u2 u3 u4 u5 u6 u7
def R_X7_isClear (σ : sf_St) (u0 u1 u2 u3 : Int32) (r : Int32) (τ : sf_St) : Prop := Rn_R_X7_isClear 0 σ u0 u1 u2 u3 0 0 0 0 r τ
theorem fe_R_X7_isClear_0 {Pr : Nat → sf_St → Int32 → Int32 → Int32 → Int32 → Int32 → Int32 → Int32 → Int32 → Prop} {r : Int32} {τ σ : sf_St} {u0 u1 u2 u3 u4 u5 u6 u7 : Int32} (h : fn_R_X7_isClear Pr r τ 0 σ u0 u1 u2 u3 u4 u5 u6 u7) : tr_R_X7_isClear_0 Pr r τ σ u0 u1 u2 u3 u4 u5 u6 u7 := h
theorem mo_R_X7_isClear_0 {Pr Pr' : Nat → sf_St → Int32 → Int32 → Int32 → Int32 → Int32 → Int32 → Int32 → Int32 → Prop} {r : Int32} {τ σ : sf_St} {u0 u1 u2 u3 u4 u5 u6 u7 : Int32} (hP : ∀ (t : Nat) (σ : sf_St) (u0 u1 u2 u3 u4 u5 u6 u7 : Int32), Pr t σ u0 u1 u2 u3 u4 u5 u6 u7 → Pr' t σ u0 u1 u2 u3 u4 u5 u6 u7) (h : tr_R_X7_isClear_0 Pr r τ σ u0 u1 u2 u3 u4 u5 u6 u7) : tr_R_X7_isClear_0 Pr' r τ σ u0 u1 u2 u3 u4 u5 u6 u7 := by
  unfold tr_R_X7_isClear_0 at h ⊢
  exact hP _ _ _ _ _ _ _ _ _ _ h
theorem ru_R_X7_isClear_0 {r : Int32} {τ σ : sf_St} {u0 u1 u2 u3 u4 u5 u6 u7 : Int32} (h : tr_R_X7_isClear_0 (fun t σ u0 u1 u2 u3 u4 u5 u6 u7 => Rn_R_X7_isClear t σ u0 u1 u2 u3 u4 u5 u6 u7 r τ) r τ σ u0 u1 u2 u3 u4 u5 u6 u7) : Rn_R_X7_isClear 0 σ u0 u1 u2 u3 u4 u5 u6 u7 r τ := fun Pr hP => hP 0 σ u0 u1 u2 u3 u4 u5 u6 u7 (mo_R_X7_isClear_0 (fun _ _ _ _ _ _ _ _ _ _ h => h Pr hP) h)
theorem fe_R_X7_isClear_1 {Pr : Nat → sf_St → Int32 → Int32 → Int32 → Int32 → Int32 → Int32 → Int32 → Int32 → Prop} {r : Int32} {τ σ : sf_St} {u0 u1 u2 u3 u4 u5 u6 u7 : Int32} (h : fn_R_X7_isClear Pr r τ 1 σ u0 u1 u2 u3 u4 u5 u6 u7) : tr_R_X7_isClear_1 Pr r τ σ u0 u1 u2 u3 u4 u5 u6 u7 := h
theorem mo_R_X7_isClear_1 {Pr Pr' : Nat → sf_St → Int32 → Int32 → Int32 → Int32 → Int32 → Int32 → Int32 → Int32 → Prop} {r : Int32} {τ σ : sf_St} {u0 u1 u2 u3 u4 u5 u6 u7 : Int32} (hP : ∀ (t : Nat) (σ : sf_St) (u0 u1 u2 u3 u4 u5 u6 u7 : Int32), Pr t σ u0 u1 u2 u3 u4 u5 u6 u7 → Pr' t σ u0 u1 u2 u3 u4 u5 u6 u7) (h : tr_R_X7_isClear_1 Pr r τ σ u0 u1 u2 u3 u4 u5 u6 u7) : tr_R_X7_isClear_1 Pr' r τ σ u0 u1 u2 u3 u4 u5 u6 u7 := by
  unfold tr_R_X7_isClear_1 at h ⊢
  refine sf_mif (fun h => ?_) (fun h => ?_) h
  · refine sf_mif (fun h => ?_) (fun h => ?_) h
    · refine sf_mif (fun h => ?_) (fun h => ?_) h
      · exact h
      · refine sf_mif (fun h => ?_) (fun h => ?_) h
        · exact h
        · exact h
    · exact h
  · refine And.imp id (fun h => ?_) h
    refine sf_mif (fun h => ?_) (fun h => ?_) h
    · refine And.imp id (fun h => ?_) h
      intro y136 hy136
      have h := h y136 hy136
      refine sf_mif (fun h => ?_) (fun h => ?_) h
      · refine sf_mif (fun h => ?_) (fun h => ?_) h
        · intro y185 hy185
          have h := h y185 hy185
          refine sf_mif (fun h => ?_) (fun h => ?_) h
          · intro y193 hy193
            have h := h y193 hy193
            refine sf_mif (fun h => ?_) (fun h => ?_) h
            · refine sf_mif (fun h => ?_) (fun h => ?_) h
              · intro y198 hy198
                have h := h y198 hy198
                exact hP _ _ _ _ _ _ _ _ _ _ h
              · intro y197 hy197
                have h := h y197 hy197
                exact hP _ _ _ _ _ _ _ _ _ _ h
            · intro y195 hy195
              have h := h y195 hy195
              exact hP _ _ _ _ _ _ _ _ _ _ h
          · intro y187 hy187
            have h := h y187 hy187
            refine sf_mif (fun h => ?_) (fun h => ?_) h
            · refine sf_mif (fun h => ?_) (fun h => ?_) h
              · intro y192 hy192
                have h := h y192 hy192
                exact hP _ _ _ _ _ _ _ _ _ _ h
              · intro y191 hy191
                have h := h y191 hy191
                exact hP _ _ _ _ _ _ _ _ _ _ h
            · intro y189 hy189
              have h := h y189 hy189
              exact hP _ _ _ _ _ _ _ _ _ _ h
        · intro y171 hy171
          have h := h y171 hy171
          refine sf_mif (fun h => ?_) (fun h => ?_) h
          · intro y179 hy179
            have h := h y179 hy179
            refine sf_mif (fun h => ?_) (fun h => ?_) h
            · refine sf_mif (fun h => ?_) (fun h => ?_) h
              · intro y184 hy184
                have h := h y184 hy184
                exact hP _ _ _ _ _ _ _ _ _ _ h
              · intro y183 hy183
                have h := h y183 hy183
                exact hP _ _ _ _ _ _ _ _ _ _ h
            · intro y181 hy181
              have h := h y181 hy181
              exact hP _ _ _ _ _ _ _ _ _ _ h
          · intro y173 hy173
            have h := h y173 hy173
            refine sf_mif (fun h => ?_) (fun h => ?_) h
            · refine sf_mif (fun h => ?_) (fun h => ?_) h
              · intro y178 hy178
                have h := h y178 hy178
                exact hP _ _ _ _ _ _ _ _ _ _ h
              · intro y177 hy177
                have h := h y177 hy177
                exact hP _ _ _ _ _ _ _ _ _ _ h
            · intro y175 hy175
              have h := h y175 hy175
              exact hP _ _ _ _ _ _ _ _ _ _ h
      · refine Exists.imp (fun _ h => Exists.imp (fun _ h => And.imp id (fun h => ?_) h) h) h
        refine sf_mif (fun h => ?_) (fun h => ?_) h
        · intro y156 hy156
          have h := h y156 hy156
          refine sf_mif (fun h => ?_) (fun h => ?_) h
          · intro y164 hy164
            have h := h y164 hy164
            refine sf_mif (fun h => ?_) (fun h => ?_) h
            · refine sf_mif (fun h => ?_) (fun h => ?_) h
              · intro y169 hy169
                have h := h y169 hy169
                exact hP _ _ _ _ _ _ _ _ _ _ h
              · intro y168 hy168
                have h := h y168 hy168
                exact hP _ _ _ _ _ _ _ _ _ _ h
            · intro y166 hy166
              have h := h y166 hy166
              exact hP _ _ _ _ _ _ _ _ _ _ h
          · intro y158 hy158
            have h := h y158 hy158
            refine sf_mif (fun h => ?_) (fun h => ?_) h
            · refine sf_mif (fun h => ?_) (fun h => ?_) h
              · intro y163 hy163
                have h := h y163 hy163
                exact hP _ _ _ _ _ _ _ _ _ _ h
              · intro y162 hy162
                have h := h y162 hy162
                exact hP _ _ _ _ _ _ _ _ _ _ h
            · intro y160 hy160
              have h := h y160 hy160
              exact hP _ _ _ _ _ _ _ _ _ _ h
        · intro y142 hy142
          have h := h y142 hy142
          refine sf_mif (fun h => ?_) (fun h => ?_) h
          · intro y150 hy150
            have h := h y150 hy150
            refine sf_mif (fun h => ?_) (fun h => ?_) h
            · refine sf_mif (fun h => ?_) (fun h => ?_) h
              · intro y155 hy155
                have h := h y155 hy155
                exact hP _ _ _ _ _ _ _ _ _ _ h
              · intro y154 hy154
                have h := h y154 hy154
                exact hP _ _ _ _ _ _ _ _ _ _ h
            · intro y152 hy152
              have h := h y152 hy152
              exact hP _ _ _ _ _ _ _ _ _ _ h
          · intro y144 hy144
            have h := h y144 hy144
            refine sf_mif (fun h => ?_) (fun h => ?_) h
            · refine sf_mif (fun h => ?_) (fun h => ?_) h
              · intro y149 hy149
                have h := h y149 hy149
                exact hP _ _ _ _ _ _ _ _ _ _ h
              · intro y148 hy148
                have h := h y148 hy148
                exact hP _ _ _ _ _ _ _ _ _ _ h
            · intro y146 hy146
              have h := h y146 hy146
              exact hP _ _ _ _ _ _ _ _ _ _ h
    · refine And.imp id (fun h => ?_) h
      refine sf_mif (fun h => ?_) (fun h => ?_) h
      · refine And.imp id (fun h => ?_) h
        intro y72 hy72
        have h := h y72 hy72
        refine sf_mif (fun h => ?_) (fun h => ?_) h
        · refine sf_mif (fun h => ?_) (fun h => ?_) h
          · intro y121 hy121
            have h := h y121 hy121
            refine sf_mif (fun h => ?_) (fun h => ?_) h
            · intro y129 hy129
              have h := h y129 hy129
              refine sf_mif (fun h => ?_) (fun h => ?_) h
              · refine sf_mif (fun h => ?_) (fun h => ?_) h
                · intro y134 hy134
                  have h := h y134 hy134
                  exact hP _ _ _ _ _ _ _ _ _ _ h
                · intro y133 hy133
                  have h := h y133 hy133
                  exact hP _ _ _ _ _ _ _ _ _ _ h
              · intro y131 hy131
                have h := h y131 hy131
                exact hP _ _ _ _ _ _ _ _ _ _ h
            · intro y123 hy123
              have h := h y123 hy123
              refine sf_mif (fun h => ?_) (fun h => ?_) h
              · refine sf_mif (fun h => ?_) (fun h => ?_) h
                · intro y128 hy128
                  have h := h y128 hy128
                  exact hP _ _ _ _ _ _ _ _ _ _ h
                · intro y127 hy127
                  have h := h y127 hy127
                  exact hP _ _ _ _ _ _ _ _ _ _ h
              · intro y125 hy125
                have h := h y125 hy125
                exact hP _ _ _ _ _ _ _ _ _ _ h
          · intro y107 hy107
            have h := h y107 hy107
            refine sf_mif (fun h => ?_) (fun h => ?_) h
            · intro y115 hy115
              have h := h y115 hy115
              refine sf_mif (fun h => ?_) (fun h => ?_) h
              · refine sf_mif (fun h => ?_) (fun h => ?_) h
                · intro y120 hy120
                  have h := h y120 hy120
                  exact hP _ _ _ _ _ _ _ _ _ _ h
                · intro y119 hy119
                  have h := h y119 hy119
                  exact hP _ _ _ _ _ _ _ _ _ _ h
              · intro y117 hy117
                have h := h y117 hy117
                exact hP _ _ _ _ _ _ _ _ _ _ h
            · intro y109 hy109
              have h := h y109 hy109
              refine sf_mif (fun h => ?_) (fun h => ?_) h
              · refine sf_mif (fun h => ?_) (fun h => ?_) h
                · intro y114 hy114
                  have h := h y114 hy114
                  exact hP _ _ _ _ _ _ _ _ _ _ h
                · intro y113 hy113
                  have h := h y113 hy113
                  exact hP _ _ _ _ _ _ _ _ _ _ h
              · intro y111 hy111
                have h := h y111 hy111
                exact hP _ _ _ _ _ _ _ _ _ _ h
        · refine Exists.imp (fun _ h => Exists.imp (fun _ h => And.imp id (fun h => ?_) h) h) h
          refine sf_mif (fun h => ?_) (fun h => ?_) h
          · intro y92 hy92
            have h := h y92 hy92
            refine sf_mif (fun h => ?_) (fun h => ?_) h
            · intro y100 hy100
              have h := h y100 hy100
              refine sf_mif (fun h => ?_) (fun h => ?_) h
              · refine sf_mif (fun h => ?_) (fun h => ?_) h
                · intro y105 hy105
                  have h := h y105 hy105
                  exact hP _ _ _ _ _ _ _ _ _ _ h
                · intro y104 hy104
                  have h := h y104 hy104
                  exact hP _ _ _ _ _ _ _ _ _ _ h
              · intro y102 hy102
                have h := h y102 hy102
                exact hP _ _ _ _ _ _ _ _ _ _ h
            · intro y94 hy94
              have h := h y94 hy94
              refine sf_mif (fun h => ?_) (fun h => ?_) h
              · refine sf_mif (fun h => ?_) (fun h => ?_) h
                · intro y99 hy99
                  have h := h y99 hy99
                  exact hP _ _ _ _ _ _ _ _ _ _ h
                · intro y98 hy98
                  have h := h y98 hy98
                  exact hP _ _ _ _ _ _ _ _ _ _ h
              · intro y96 hy96
                have h := h y96 hy96
                exact hP _ _ _ _ _ _ _ _ _ _ h
          · intro y78 hy78
            have h := h y78 hy78
            refine sf_mif (fun h => ?_) (fun h => ?_) h
            · intro y86 hy86
              have h := h y86 hy86
              refine sf_mif (fun h => ?_) (fun h => ?_) h
              · refine sf_mif (fun h => ?_) (fun h => ?_) h
                · intro y91 hy91
                  have h := h y91 hy91
                  exact hP _ _ _ _ _ _ _ _ _ _ h
                · intro y90 hy90
                  have h := h y90 hy90
                  exact hP _ _ _ _ _ _ _ _ _ _ h
              · intro y88 hy88
                have h := h y88 hy88
                exact hP _ _ _ _ _ _ _ _ _ _ h
            · intro y80 hy80
              have h := h y80 hy80
              refine sf_mif (fun h => ?_) (fun h => ?_) h
              · refine sf_mif (fun h => ?_) (fun h => ?_) h
                · intro y85 hy85
                  have h := h y85 hy85
                  exact hP _ _ _ _ _ _ _ _ _ _ h
                · intro y84 hy84
                  have h := h y84 hy84
                  exact hP _ _ _ _ _ _ _ _ _ _ h
              · intro y82 hy82
                have h := h y82 hy82
                exact hP _ _ _ _ _ _ _ _ _ _ h
      · refine sf_mif (fun h => ?_) (fun h => ?_) h
        · refine sf_mif (fun h => ?_) (fun h => ?_) h
          · intro y57 hy57
            have h := h y57 hy57
            refine sf_mif (fun h => ?_) (fun h => ?_) h
            · intro y65 hy65
              have h := h y65 hy65
              refine sf_mif (fun h => ?_) (fun h => ?_) h
              · refine sf_mif (fun h => ?_) (fun h => ?_) h
                · intro y70 hy70
                  have h := h y70 hy70
                  exact hP _ _ _ _ _ _ _ _ _ _ h
                · intro y69 hy69
                  have h := h y69 hy69
                  exact hP _ _ _ _ _ _ _ _ _ _ h
              · intro y67 hy67
                have h := h y67 hy67
                exact hP _ _ _ _ _ _ _ _ _ _ h
            · intro y59 hy59
              have h := h y59 hy59
              refine sf_mif (fun h => ?_) (fun h => ?_) h
              · refine sf_mif (fun h => ?_) (fun h => ?_) h
                · intro y64 hy64
                  have h := h y64 hy64
                  exact hP _ _ _ _ _ _ _ _ _ _ h
                · intro y63 hy63
                  have h := h y63 hy63
                  exact hP _ _ _ _ _ _ _ _ _ _ h
              · intro y61 hy61
                have h := h y61 hy61
                exact hP _ _ _ _ _ _ _ _ _ _ h
          · intro y43 hy43
            have h := h y43 hy43
            refine sf_mif (fun h => ?_) (fun h => ?_) h
            · intro y51 hy51
              have h := h y51 hy51
              refine sf_mif (fun h => ?_) (fun h => ?_) h
              · refine sf_mif (fun h => ?_) (fun h => ?_) h
                · intro y56 hy56
                  have h := h y56 hy56
                  exact hP _ _ _ _ _ _ _ _ _ _ h
                · intro y55 hy55
                  have h := h y55 hy55
                  exact hP _ _ _ _ _ _ _ _ _ _ h
              · intro y53 hy53
                have h := h y53 hy53
                exact hP _ _ _ _ _ _ _ _ _ _ h
            · intro y45 hy45
              have h := h y45 hy45
              refine sf_mif (fun h => ?_) (fun h => ?_) h
              · refine sf_mif (fun h => ?_) (fun h => ?_) h
                · intro y50 hy50
                  have h := h y50 hy50
                  exact hP _ _ _ _ _ _ _ _ _ _ h
                · intro y49 hy49
                  have h := h y49 hy49
                  exact hP _ _ _ _ _ _ _ _ _ _ h
              · intro y47 hy47
                have h := h y47 hy47
                exact hP _ _ _ _ _ _ _ _ _ _ h
        · refine Exists.imp (fun _ h => Exists.imp (fun _ h => And.imp id (fun h => ?_) h) h) h
          refine sf_mif (fun h => ?_) (fun h => ?_) h
          · intro y28 hy28
            have h := h y28 hy28
            refine sf_mif (fun h => ?_) (fun h => ?_) h
            · intro y36 hy36
              have h := h y36 hy36
              refine sf_mif (fun h => ?_) (fun h => ?_) h
              · refine sf_mif (fun h => ?_) (fun h => ?_) h
                · intro y41 hy41
                  have h := h y41 hy41
                  exact hP _ _ _ _ _ _ _ _ _ _ h
                · intro y40 hy40
                  have h := h y40 hy40
                  exact hP _ _ _ _ _ _ _ _ _ _ h
              · intro y38 hy38
                have h := h y38 hy38
                exact hP _ _ _ _ _ _ _ _ _ _ h
            · intro y30 hy30
              have h := h y30 hy30
              refine sf_mif (fun h => ?_) (fun h => ?_) h
              · refine sf_mif (fun h => ?_) (fun h => ?_) h
                · intro y35 hy35
                  have h := h y35 hy35
                  exact hP _ _ _ _ _ _ _ _ _ _ h
                · intro y34 hy34
                  have h := h y34 hy34
                  exact hP _ _ _ _ _ _ _ _ _ _ h
              · intro y32 hy32
                have h := h y32 hy32
                exact hP _ _ _ _ _ _ _ _ _ _ h
          · intro y14 hy14
            have h := h y14 hy14
            refine sf_mif (fun h => ?_) (fun h => ?_) h
            · intro y22 hy22
              have h := h y22 hy22
              refine sf_mif (fun h => ?_) (fun h => ?_) h
              · refine sf_mif (fun h => ?_) (fun h => ?_) h
                · intro y27 hy27
                  have h := h y27 hy27
                  exact hP _ _ _ _ _ _ _ _ _ _ h
                · intro y26 hy26
                  have h := h y26 hy26
                  exact hP _ _ _ _ _ _ _ _ _ _ h
              · intro y24 hy24
                have h := h y24 hy24
                exact hP _ _ _ _ _ _ _ _ _ _ h
            · intro y16 hy16
              have h := h y16 hy16
              refine sf_mif (fun h => ?_) (fun h => ?_) h
              · refine sf_mif (fun h => ?_) (fun h => ?_) h
                · intro y21 hy21
                  have h := h y21 hy21
                  exact hP _ _ _ _ _ _ _ _ _ _ h
                · intro y20 hy20
                  have h := h y20 hy20
                  exact hP _ _ _ _ _ _ _ _ _ _ h
              · intro y18 hy18
                have h := h y18 hy18
                exact hP _ _ _ _ _ _ _ _ _ _ h
theorem ru_R_X7_isClear_1 {r : Int32} {τ σ : sf_St} {u0 u1 u2 u3 u4 u5 u6 u7 : Int32} (h : tr_R_X7_isClear_1 (fun t σ u0 u1 u2 u3 u4 u5 u6 u7 => Rn_R_X7_isClear t σ u0 u1 u2 u3 u4 u5 u6 u7 r τ) r τ σ u0 u1 u2 u3 u4 u5 u6 u7) : Rn_R_X7_isClear 1 σ u0 u1 u2 u3 u4 u5 u6 u7 r τ := fun Pr hP => hP 1 σ u0 u1 u2 u3 u4 u5 u6 u7 (mo_R_X7_isClear_1 (fun _ _ _ _ _ _ _ _ _ _ h => h Pr hP) h)
set_option maxHeartbeats 4000000 in
set_option maxRecDepth 100000 in
theorem c_X7_isClear {l : Launch} {D : va_G} {q : Nat → Nat} {dA : Nat → ClassId}  (hq : sf_inj q KM) {σ τ : sf_St} {u0 u1 u2 u3 : Int32} {r : Int32} (h : R_X7_isClear σ u0 u1 u2 u3 r τ) : sf_Mi l yX7_isClear wsX7_isClear ({ frames := 2, cells := 0, slots := 0, locals := 43 }) D vwCl q dA KM sf_EM [.ref (q 0), .int u0, .int u1, .int u2, .int u3] σ r τ := by
  refine sf_meti (cc := cX7_isClear) (maxL := 11) (ret := (some .boolean)) (own := RX7) (by decide +kernel) rfl rfl hq sf_EMk (Nat.le_of_ble_eq_true rfl) ?_
  intro p e s m args below meth c X
  refine sf_loc (lv' := [(0, .ref (q 0)), (1, .int u0), (2, .int u1), (3, .int u2), (4, .int u3)]) [0, 1, 2, 3, 4] rfl ?_
  refine h (fun t σ u0 u1 u2 u3 u4 u5 u6 u7 => match t with
    | 0 => sf_G p l e (headSpec wsX7_isClear ({ frames := 2, cells := 0, slots := 0, locals := 43 })).room s m args below meth c (sf_Qi D vwCl q dA KM sf_EM below args s r τ) 11 D vwCl q dA KM σ 0 [(0, .ref (q 0)), (1, .int u0), (2, .int u1), (3, .int u2), (4, .int u3)] []
    | 1 => sf_G p l e (headSpec wsX7_isClear ({ frames := 2, cells := 0, slots := 0, locals := 43 })).room s m args below meth c (sf_Qi D vwCl q dA KM sf_EM below args s r τ) 11 D vwCl q dA KM σ 12 [(0, .ref (q 0)), (1, .int u0), (2, .int u1), (3, .int u2), (4, .int u3), (5, .int u4), (6, .int u5), (7, .int u6), (8, .int u7)] []
    | _ => True) ?_
  intro t σ u0 u1 u2 u3 u4 u5 u6 u7 h
  match t, h with
  | 0, h =>
      replace h := fe_R_X7_isClear_0 h
      unfold tr_R_X7_isClear_0 at h
      show sf_G p l e (headSpec wsX7_isClear ({ frames := 2, cells := 0, slots := 0, locals := 43 })).room s m args below meth c (sf_Qi D vwCl q dA KM sf_EM below args s r τ) 11 D vwCl q dA KM σ 0 [(0, .ref (q 0)), (1, .int u0), (2, .int u1), (3, .int u2), (4, .int u3)] []
      refine sf_iconst (v := 0) X dX7_isClear_0 sf_ic_0 rfl ?_
      refine sf_istore (i := 5) (lv' := [(5, .int (0 : Int32)), (0, .ref (q 0)), (1, .int u0), (2, .int u1), (3, .int u2), (4, .int u3)]) X dX7_isClear_1 (by decide) rfl rfl ?_
      refine sf_iconst (v := 0) X dX7_isClear_3 sf_ic_0 rfl ?_
      refine sf_istore (i := 6) (lv' := [(6, .int (0 : Int32)), (5, .int (0 : Int32)), (0, .ref (q 0)), (1, .int u0), (2, .int u1), (3, .int u2), (4, .int u3)]) X dX7_isClear_4 (by decide) rfl rfl ?_
      refine sf_iconst (v := 0) X dX7_isClear_6 sf_ic_0 rfl ?_
      refine sf_istore (i := 7) (lv' := [(7, .int (0 : Int32)), (6, .int (0 : Int32)), (5, .int (0 : Int32)), (0, .ref (q 0)), (1, .int u0), (2, .int u1), (3, .int u2), (4, .int u3)]) X dX7_isClear_7 (by decide) rfl rfl ?_
      refine sf_iconst (v := 0) X dX7_isClear_9 sf_ic_0 rfl ?_
      refine sf_istore (i := 8) (lv' := [(8, .int (0 : Int32)), (7, .int (0 : Int32)), (6, .int (0 : Int32)), (5, .int (0 : Int32)), (0, .ref (q 0)), (1, .int u0), (2, .int u1), (3, .int u2), (4, .int u3)]) X dX7_isClear_10 (by decide) rfl rfl ?_
      refine sf_loc (lv' := [(0, .ref (q 0)), (1, .int u0), (2, .int u1), (3, .int u2), (4, .int u3), (5, .int (0 : Int32)), (6, .int (0 : Int32)), (7, .int (0 : Int32)), (8, .int (0 : Int32))]) [4, 5, 6, 7, 8, 3, 2, 1, 0] rfl ?_
      exact h
  | 1, h =>
      replace h := fe_R_X7_isClear_1 h
      unfold tr_R_X7_isClear_1 at h
      show sf_G p l e (headSpec wsX7_isClear ({ frames := 2, cells := 0, slots := 0, locals := 43 })).room s m args below meth c (sf_Qi D vwCl q dA KM sf_EM below args s r τ) 11 D vwCl q dA KM σ 12 [(0, .ref (q 0)), (1, .int u0), (2, .int u1), (3, .int u2), (4, .int u3), (5, .int u4), (6, .int u5), (7, .int u6), (8, .int u7)] []
      refine sf_iload (i := 8) (j := 8) X dX7_isClear_12 rfl rfl ?_
      refine sf_aload_n (i := 0) (j := 0) X dX7_isClear_14 rfl rfl rfl ?_
      refine sf_getI (C := RX7) (T := TX7) (N := 23) (ci := 7) (j := 4) X (fun w h => sf_memc (inX7 w h)) rfl rfl (by decide) (X.1.2.2.2.2 _ (sf_memc tw_635)) (fun _ h9 => h9) rfl dX7_isClear_15 rfl ?_
      refine sf_icmp_ge (tgt := 143) X dX7_isClear_18 rfl rfl (fun c1 => ?_) (fun c1 => ?_)
      · have h := sf_ift c1 h
        refine sf_iload (i := 7) (j := 7) X dX7_isClear_143 rfl rfl ?_
        refine sf_if_ne (tgt := 164) X dX7_isClear_145 rfl rfl (fun c2 => ?_) (fun c2 => ?_)
        · have h := sf_iff c2 h
          refine sf_iconst (v := 0) X dX7_isClear_164 sf_ic_0 rfl ?_
          exact sf_retz X h rfl dX7_isClear_165
        · have h := sf_ift c2 h
          refine sf_iload (i := 5) (j := 5) X dX7_isClear_148 rfl rfl ?_
          refine sf_iconst (v := 2) X dX7_isClear_150 sf_ic_2 rfl ?_
          refine sf_icmp_ge (tgt := 164) X dX7_isClear_151 rfl rfl (fun c3 => ?_) (fun c3 => ?_)
          · have h := sf_ift c3 h
            refine sf_iconst (v := 0) X dX7_isClear_164 sf_ic_0 rfl ?_
            exact sf_retz X h rfl dX7_isClear_165
          · have h := sf_iff c3 h
            refine sf_iload (i := 6) (j := 6) X dX7_isClear_154 rfl rfl ?_
            refine sf_iconst (v := 2) X dX7_isClear_156 sf_ic_2 rfl ?_
            refine sf_icmp_ge (tgt := 164) X dX7_isClear_157 rfl rfl (fun c4 => ?_) (fun c4 => ?_)
            · have h := sf_ift c4 h
              refine sf_iconst (v := 0) X dX7_isClear_164 sf_ic_0 rfl ?_
              exact sf_retz X h rfl dX7_isClear_165
            · have h := sf_iff c4 h
              refine sf_iconst (v := 1) X dX7_isClear_160 sf_ic_1 rfl ?_
              refine sf_goto (tgt := 165) X dX7_isClear_161 rfl ?_
              exact sf_retz X h rfl dX7_isClear_165
      · have h := sf_iff c1 h
        refine sf_aload_n (i := 0) (j := 0) X dX7_isClear_21 rfl rfl rfl ?_
        refine sf_getR (C := RX7) (T := TX7) (N := 23) (ci := 7) (j := 5) (k' := 4) X (fun w h => sf_memc (inX7 w h)) rfl rfl (by decide) (X.1.2.2.2.2 _ (sf_memc tw_636)) (fun _ h9 => h9) rfl dX7_isClear_22 rfl ?_
        refine sf_iload (i := 8) (j := 8) X dX7_isClear_25 rfl rfl ?_
        obtain ⟨b5, h⟩ := h
        refine sf_iald X rfl b5 dX7_isClear_27 rfl ?_
        refine sf_iload_n (i := 3) (j := 3) X dX7_isClear_28 rfl rfl rfl ?_
        refine sf_icmp_ne (tgt := 42) X dX7_isClear_29 rfl rfl (fun c6 => ?_) (fun c6 => ?_)
        · have h := sf_iff c6 h
          refine sf_aload_n (i := 0) (j := 0) X dX7_isClear_42 rfl rfl rfl ?_
          refine sf_getR (C := RX7) (T := TX7) (N := 23) (ci := 7) (j := 6) (k' := 5) X (fun w h => sf_memc (inX7 w h)) rfl rfl (by decide) (X.1.2.2.2.2 _ (sf_memc tw_637)) (fun _ h9 => h9) rfl dX7_isClear_43 rfl ?_
          refine sf_iload (i := 8) (j := 8) X dX7_isClear_46 rfl rfl ?_
          obtain ⟨b7, h⟩ := h
          refine sf_iald X rfl b7 dX7_isClear_48 rfl ?_
          refine sf_iload_n (i := 3) (j := 3) X dX7_isClear_49 rfl rfl rfl ?_
          refine sf_icmp_ne (tgt := 63) X dX7_isClear_50 rfl rfl (fun c8 => ?_) (fun c8 => ?_)
          · have h := sf_iff c8 h
            refine sf_iload (i := 4) (j := 4) X dX7_isClear_63 rfl rfl ?_
            refine sf_istore (i := 9) (lv' := [(9, .int u3), (0, .ref (q 0)), (1, .int u0), (2, .int u1), (3, .int u2), (4, .int u3), (5, .int u4), (6, .int u5), (7, .int u6), (8, .int u7)]) X dX7_isClear_65 (by decide) rfl rfl ?_
            refine sf_iload (i := 9) (j := 0) X dX7_isClear_67 rfl rfl ?_
            refine sf_iload (i := 4) (j := 5) X dX7_isClear_69 rfl rfl ?_
            refine sf_icmp_ne (tgt := 78) X dX7_isClear_71 rfl rfl (fun c9 => ?_) (fun c9 => ?_)
            · have h := sf_iff c9 h
              refine sf_aload_n (i := 0) (j := 1) X dX7_isClear_78 rfl rfl rfl ?_
              refine sf_iload_n (i := 1) (j := 2) X dX7_isClear_79 rfl rfl rfl ?_
              refine sf_iload_n (i := 2) (j := 3) X dX7_isClear_80 rfl rfl rfl ?_
              refine sf_iload (i := 9) (j := 0) X dX7_isClear_81 rfl rfl ?_
              obtain ⟨r12, τ11, hR10, h⟩ := h
              refine sf_callVi (As := [.int u0, .int u1, .int u3]) (rest := []) (cv := (RX7, TX7, 23)) X rfl rfl (c_X7_side hq hR10) (cwV 3 X.1.2.2.2.2 (sf_gV tw_794 tw_796 tw_27 tw_48 tw_797) rfl rfl rfl ⟨rfl, hd_X7_side⟩ ⟨Nat.le_of_ble_eq_true rfl, Nat.le_of_ble_eq_true rfl⟩) rfl rfl (Nat.le_of_ble_eq_true rfl) dX7_isClear_83 rfl ?_
              refine sf_istore (i := 10) (lv' := [(10, .int r12), (9, .int u3), (0, .ref (q 0)), (1, .int u0), (2, .int u1), (3, .int u2), (4, .int u3), (5, .int u4), (6, .int u5), (7, .int u6), (8, .int u7)]) X dX7_isClear_86 (by decide) rfl rfl ?_
              refine sf_iload (i := 5) (j := 7) X dX7_isClear_88 rfl rfl ?_
              refine sf_iload (i := 10) (j := 0) X dX7_isClear_90 rfl rfl ?_
              refine sf_iconst (v := 1) X dX7_isClear_92 sf_ic_1 rfl ?_
              refine sf_icmp_ne (tgt := 100) X dX7_isClear_93 rfl rfl (fun c13 => ?_) (fun c13 => ?_)
              · have h := sf_iff c13 h
                refine sf_iconst (v := 0) X dX7_isClear_100 sf_ic_0 rfl ?_
                refine sf_iadd X dX7_isClear_101 rfl ?_
                refine sf_top (fun y14 hy14 => ?_)
                have h := h y14 hy14
                refine sf_istore (i := 5) (lv' := [(5, .int y14), (10, .int r12), (9, .int u3), (0, .ref (q 0)), (1, .int u0), (2, .int u1), (3, .int u2), (4, .int u3), (6, .int u5), (7, .int u6), (8, .int u7)]) X dX7_isClear_102 (by decide) rfl rfl ?_
                refine sf_iload (i := 6) (j := 8) X dX7_isClear_104 rfl rfl ?_
                refine sf_iload (i := 10) (j := 1) X dX7_isClear_106 rfl rfl ?_
                refine sf_iconst (v := (-1)) X dX7_isClear_108 sf_ic_m1 rfl ?_
                refine sf_icmp_ne (tgt := 116) X dX7_isClear_109 rfl rfl (fun c15 => ?_) (fun c15 => ?_)
                · have h := sf_iff c15 h
                  refine sf_iconst (v := 0) X dX7_isClear_116 sf_ic_0 rfl ?_
                  refine sf_iadd X dX7_isClear_117 rfl ?_
                  refine sf_top (fun y16 hy16 => ?_)
                  have h := h y16 hy16
                  refine sf_istore (i := 6) (lv' := [(6, .int y16), (5, .int y14), (10, .int r12), (9, .int u3), (0, .ref (q 0)), (1, .int u0), (2, .int u1), (3, .int u2), (4, .int u3), (7, .int u6), (8, .int u7)]) X dX7_isClear_118 (by decide) rfl rfl ?_
                  refine sf_iload (i := 7) (j := 9) X dX7_isClear_120 rfl rfl ?_
                  refine sf_if_ne (tgt := 130) X dX7_isClear_122 rfl rfl (fun c17 => ?_) (fun c17 => ?_)
                  · have h := sf_iff c17 h
                    refine sf_iconst (v := 1) X dX7_isClear_130 sf_ic_1 rfl ?_
                    refine sf_goto (tgt := 135) X dX7_isClear_131 rfl ?_
                    refine sf_istore (i := 7) (lv' := [(7, .int (1 : Int32)), (6, .int y16), (5, .int y14), (10, .int r12), (9, .int u3), (0, .ref (q 0)), (1, .int u0), (2, .int u1), (3, .int u2), (4, .int u3), (8, .int u7)]) X dX7_isClear_135 (by decide) rfl rfl ?_
                    refine sf_iinc (i := 8) (j := 10) (d := 1) (lv' := fun y18 => [(8, .int y18), (7, .int (1 : Int32)), (6, .int y16), (5, .int y14), (10, .int r12), (9, .int u3), (0, .ref (q 0)), (1, .int u0), (2, .int u1), (3, .int u2), (4, .int u3)]) X dX7_isClear_137 rfl sf_ic_1 (by decide) (fun _ => rfl) rfl (fun y18 hy18 => ?_)
                    have h := h y18 hy18
                    refine sf_goto (tgt := 12) X dX7_isClear_140 rfl ?_
                    refine sf_loc (lv' := [(0, .ref (q 0)), (1, .int u0), (2, .int u1), (3, .int u2), (4, .int u3), (5, .int y14), (6, .int y16), (7, .int (1 : Int32)), (8, .int y18)]) [6, 7, 8, 9, 10, 3, 2, 1, 0] rfl ?_
                    exact h
                  · have h := sf_ift c17 h
                    refine sf_iload (i := 10) (j := 2) X dX7_isClear_125 rfl rfl ?_
                    refine sf_if_ne (tgt := 134) X dX7_isClear_127 rfl rfl (fun c19 => ?_) (fun c19 => ?_)
                    · have h := sf_iff c19 h
                      refine sf_iconst (v := 0) X dX7_isClear_134 sf_ic_0 rfl ?_
                      refine sf_istore (i := 7) (lv' := [(7, .int (0 : Int32)), (6, .int y16), (5, .int y14), (10, .int r12), (9, .int u3), (0, .ref (q 0)), (1, .int u0), (2, .int u1), (3, .int u2), (4, .int u3), (8, .int u7)]) X dX7_isClear_135 (by decide) rfl rfl ?_
                      refine sf_iinc (i := 8) (j := 10) (d := 1) (lv' := fun y20 => [(8, .int y20), (7, .int (0 : Int32)), (6, .int y16), (5, .int y14), (10, .int r12), (9, .int u3), (0, .ref (q 0)), (1, .int u0), (2, .int u1), (3, .int u2), (4, .int u3)]) X dX7_isClear_137 rfl sf_ic_1 (by decide) (fun _ => rfl) rfl (fun y20 hy20 => ?_)
                      have h := h y20 hy20
                      refine sf_goto (tgt := 12) X dX7_isClear_140 rfl ?_
                      refine sf_loc (lv' := [(0, .ref (q 0)), (1, .int u0), (2, .int u1), (3, .int u2), (4, .int u3), (5, .int y14), (6, .int y16), (7, .int (0 : Int32)), (8, .int y20)]) [6, 7, 8, 9, 10, 3, 2, 1, 0] rfl ?_
                      exact h
                    · have h := sf_ift c19 h
                      refine sf_iconst (v := 1) X dX7_isClear_130 sf_ic_1 rfl ?_
                      refine sf_goto (tgt := 135) X dX7_isClear_131 rfl ?_
                      refine sf_istore (i := 7) (lv' := [(7, .int (1 : Int32)), (6, .int y16), (5, .int y14), (10, .int r12), (9, .int u3), (0, .ref (q 0)), (1, .int u0), (2, .int u1), (3, .int u2), (4, .int u3), (8, .int u7)]) X dX7_isClear_135 (by decide) rfl rfl ?_
                      refine sf_iinc (i := 8) (j := 10) (d := 1) (lv' := fun y21 => [(8, .int y21), (7, .int (1 : Int32)), (6, .int y16), (5, .int y14), (10, .int r12), (9, .int u3), (0, .ref (q 0)), (1, .int u0), (2, .int u1), (3, .int u2), (4, .int u3)]) X dX7_isClear_137 rfl sf_ic_1 (by decide) (fun _ => rfl) rfl (fun y21 hy21 => ?_)
                      have h := h y21 hy21
                      refine sf_goto (tgt := 12) X dX7_isClear_140 rfl ?_
                      refine sf_loc (lv' := [(0, .ref (q 0)), (1, .int u0), (2, .int u1), (3, .int u2), (4, .int u3), (5, .int y14), (6, .int y16), (7, .int (1 : Int32)), (8, .int y21)]) [6, 7, 8, 9, 10, 3, 2, 1, 0] rfl ?_
                      exact h
                · have h := sf_ift c15 h
                  refine sf_iconst (v := 1) X dX7_isClear_112 sf_ic_1 rfl ?_
                  refine sf_goto (tgt := 117) X dX7_isClear_113 rfl ?_
                  refine sf_iadd X dX7_isClear_117 rfl ?_
                  refine sf_top (fun y22 hy22 => ?_)
                  have h := h y22 hy22
                  refine sf_istore (i := 6) (lv' := [(6, .int y22), (5, .int y14), (10, .int r12), (9, .int u3), (0, .ref (q 0)), (1, .int u0), (2, .int u1), (3, .int u2), (4, .int u3), (7, .int u6), (8, .int u7)]) X dX7_isClear_118 (by decide) rfl rfl ?_
                  refine sf_iload (i := 7) (j := 9) X dX7_isClear_120 rfl rfl ?_
                  refine sf_if_ne (tgt := 130) X dX7_isClear_122 rfl rfl (fun c23 => ?_) (fun c23 => ?_)
                  · have h := sf_iff c23 h
                    refine sf_iconst (v := 1) X dX7_isClear_130 sf_ic_1 rfl ?_
                    refine sf_goto (tgt := 135) X dX7_isClear_131 rfl ?_
                    refine sf_istore (i := 7) (lv' := [(7, .int (1 : Int32)), (6, .int y22), (5, .int y14), (10, .int r12), (9, .int u3), (0, .ref (q 0)), (1, .int u0), (2, .int u1), (3, .int u2), (4, .int u3), (8, .int u7)]) X dX7_isClear_135 (by decide) rfl rfl ?_
                    refine sf_iinc (i := 8) (j := 10) (d := 1) (lv' := fun y24 => [(8, .int y24), (7, .int (1 : Int32)), (6, .int y22), (5, .int y14), (10, .int r12), (9, .int u3), (0, .ref (q 0)), (1, .int u0), (2, .int u1), (3, .int u2), (4, .int u3)]) X dX7_isClear_137 rfl sf_ic_1 (by decide) (fun _ => rfl) rfl (fun y24 hy24 => ?_)
                    have h := h y24 hy24
                    refine sf_goto (tgt := 12) X dX7_isClear_140 rfl ?_
                    refine sf_loc (lv' := [(0, .ref (q 0)), (1, .int u0), (2, .int u1), (3, .int u2), (4, .int u3), (5, .int y14), (6, .int y22), (7, .int (1 : Int32)), (8, .int y24)]) [6, 7, 8, 9, 10, 3, 2, 1, 0] rfl ?_
                    exact h
                  · have h := sf_ift c23 h
                    refine sf_iload (i := 10) (j := 2) X dX7_isClear_125 rfl rfl ?_
                    refine sf_if_ne (tgt := 134) X dX7_isClear_127 rfl rfl (fun c25 => ?_) (fun c25 => ?_)
                    · have h := sf_iff c25 h
                      refine sf_iconst (v := 0) X dX7_isClear_134 sf_ic_0 rfl ?_
                      refine sf_istore (i := 7) (lv' := [(7, .int (0 : Int32)), (6, .int y22), (5, .int y14), (10, .int r12), (9, .int u3), (0, .ref (q 0)), (1, .int u0), (2, .int u1), (3, .int u2), (4, .int u3), (8, .int u7)]) X dX7_isClear_135 (by decide) rfl rfl ?_
                      refine sf_iinc (i := 8) (j := 10) (d := 1) (lv' := fun y26 => [(8, .int y26), (7, .int (0 : Int32)), (6, .int y22), (5, .int y14), (10, .int r12), (9, .int u3), (0, .ref (q 0)), (1, .int u0), (2, .int u1), (3, .int u2), (4, .int u3)]) X dX7_isClear_137 rfl sf_ic_1 (by decide) (fun _ => rfl) rfl (fun y26 hy26 => ?_)
                      have h := h y26 hy26
                      refine sf_goto (tgt := 12) X dX7_isClear_140 rfl ?_
                      refine sf_loc (lv' := [(0, .ref (q 0)), (1, .int u0), (2, .int u1), (3, .int u2), (4, .int u3), (5, .int y14), (6, .int y22), (7, .int (0 : Int32)), (8, .int y26)]) [6, 7, 8, 9, 10, 3, 2, 1, 0] rfl ?_
                      exact h
                    · have h := sf_ift c25 h
                      refine sf_iconst (v := 1) X dX7_isClear_130 sf_ic_1 rfl ?_
                      refine sf_goto (tgt := 135) X dX7_isClear_131 rfl ?_
                      refine sf_istore (i := 7) (lv' := [(7, .int (1 : Int32)), (6, .int y22), (5, .int y14), (10, .int r12), (9, .int u3), (0, .ref (q 0)), (1, .int u0), (2, .int u1), (3, .int u2), (4, .int u3), (8, .int u7)]) X dX7_isClear_135 (by decide) rfl rfl ?_
                      refine sf_iinc (i := 8) (j := 10) (d := 1) (lv' := fun y27 => [(8, .int y27), (7, .int (1 : Int32)), (6, .int y22), (5, .int y14), (10, .int r12), (9, .int u3), (0, .ref (q 0)), (1, .int u0), (2, .int u1), (3, .int u2), (4, .int u3)]) X dX7_isClear_137 rfl sf_ic_1 (by decide) (fun _ => rfl) rfl (fun y27 hy27 => ?_)
                      have h := h y27 hy27
                      refine sf_goto (tgt := 12) X dX7_isClear_140 rfl ?_
                      refine sf_loc (lv' := [(0, .ref (q 0)), (1, .int u0), (2, .int u1), (3, .int u2), (4, .int u3), (5, .int y14), (6, .int y22), (7, .int (1 : Int32)), (8, .int y27)]) [6, 7, 8, 9, 10, 3, 2, 1, 0] rfl ?_
                      exact h
              · have h := sf_ift c13 h
                refine sf_iconst (v := 1) X dX7_isClear_96 sf_ic_1 rfl ?_
                refine sf_goto (tgt := 101) X dX7_isClear_97 rfl ?_
                refine sf_iadd X dX7_isClear_101 rfl ?_
                refine sf_top (fun y28 hy28 => ?_)
                have h := h y28 hy28
                refine sf_istore (i := 5) (lv' := [(5, .int y28), (10, .int r12), (9, .int u3), (0, .ref (q 0)), (1, .int u0), (2, .int u1), (3, .int u2), (4, .int u3), (6, .int u5), (7, .int u6), (8, .int u7)]) X dX7_isClear_102 (by decide) rfl rfl ?_
                refine sf_iload (i := 6) (j := 8) X dX7_isClear_104 rfl rfl ?_
                refine sf_iload (i := 10) (j := 1) X dX7_isClear_106 rfl rfl ?_
                refine sf_iconst (v := (-1)) X dX7_isClear_108 sf_ic_m1 rfl ?_
                refine sf_icmp_ne (tgt := 116) X dX7_isClear_109 rfl rfl (fun c29 => ?_) (fun c29 => ?_)
                · have h := sf_iff c29 h
                  refine sf_iconst (v := 0) X dX7_isClear_116 sf_ic_0 rfl ?_
                  refine sf_iadd X dX7_isClear_117 rfl ?_
                  refine sf_top (fun y30 hy30 => ?_)
                  have h := h y30 hy30
                  refine sf_istore (i := 6) (lv' := [(6, .int y30), (5, .int y28), (10, .int r12), (9, .int u3), (0, .ref (q 0)), (1, .int u0), (2, .int u1), (3, .int u2), (4, .int u3), (7, .int u6), (8, .int u7)]) X dX7_isClear_118 (by decide) rfl rfl ?_
                  refine sf_iload (i := 7) (j := 9) X dX7_isClear_120 rfl rfl ?_
                  refine sf_if_ne (tgt := 130) X dX7_isClear_122 rfl rfl (fun c31 => ?_) (fun c31 => ?_)
                  · have h := sf_iff c31 h
                    refine sf_iconst (v := 1) X dX7_isClear_130 sf_ic_1 rfl ?_
                    refine sf_goto (tgt := 135) X dX7_isClear_131 rfl ?_
                    refine sf_istore (i := 7) (lv' := [(7, .int (1 : Int32)), (6, .int y30), (5, .int y28), (10, .int r12), (9, .int u3), (0, .ref (q 0)), (1, .int u0), (2, .int u1), (3, .int u2), (4, .int u3), (8, .int u7)]) X dX7_isClear_135 (by decide) rfl rfl ?_
                    refine sf_iinc (i := 8) (j := 10) (d := 1) (lv' := fun y32 => [(8, .int y32), (7, .int (1 : Int32)), (6, .int y30), (5, .int y28), (10, .int r12), (9, .int u3), (0, .ref (q 0)), (1, .int u0), (2, .int u1), (3, .int u2), (4, .int u3)]) X dX7_isClear_137 rfl sf_ic_1 (by decide) (fun _ => rfl) rfl (fun y32 hy32 => ?_)
                    have h := h y32 hy32
                    refine sf_goto (tgt := 12) X dX7_isClear_140 rfl ?_
                    refine sf_loc (lv' := [(0, .ref (q 0)), (1, .int u0), (2, .int u1), (3, .int u2), (4, .int u3), (5, .int y28), (6, .int y30), (7, .int (1 : Int32)), (8, .int y32)]) [6, 7, 8, 9, 10, 3, 2, 1, 0] rfl ?_
                    exact h
                  · have h := sf_ift c31 h
                    refine sf_iload (i := 10) (j := 2) X dX7_isClear_125 rfl rfl ?_
                    refine sf_if_ne (tgt := 134) X dX7_isClear_127 rfl rfl (fun c33 => ?_) (fun c33 => ?_)
                    · have h := sf_iff c33 h
                      refine sf_iconst (v := 0) X dX7_isClear_134 sf_ic_0 rfl ?_
                      refine sf_istore (i := 7) (lv' := [(7, .int (0 : Int32)), (6, .int y30), (5, .int y28), (10, .int r12), (9, .int u3), (0, .ref (q 0)), (1, .int u0), (2, .int u1), (3, .int u2), (4, .int u3), (8, .int u7)]) X dX7_isClear_135 (by decide) rfl rfl ?_
                      refine sf_iinc (i := 8) (j := 10) (d := 1) (lv' := fun y34 => [(8, .int y34), (7, .int (0 : Int32)), (6, .int y30), (5, .int y28), (10, .int r12), (9, .int u3), (0, .ref (q 0)), (1, .int u0), (2, .int u1), (3, .int u2), (4, .int u3)]) X dX7_isClear_137 rfl sf_ic_1 (by decide) (fun _ => rfl) rfl (fun y34 hy34 => ?_)
                      have h := h y34 hy34
                      refine sf_goto (tgt := 12) X dX7_isClear_140 rfl ?_
                      refine sf_loc (lv' := [(0, .ref (q 0)), (1, .int u0), (2, .int u1), (3, .int u2), (4, .int u3), (5, .int y28), (6, .int y30), (7, .int (0 : Int32)), (8, .int y34)]) [6, 7, 8, 9, 10, 3, 2, 1, 0] rfl ?_
                      exact h
                    · have h := sf_ift c33 h
                      refine sf_iconst (v := 1) X dX7_isClear_130 sf_ic_1 rfl ?_
                      refine sf_goto (tgt := 135) X dX7_isClear_131 rfl ?_
                      refine sf_istore (i := 7) (lv' := [(7, .int (1 : Int32)), (6, .int y30), (5, .int y28), (10, .int r12), (9, .int u3), (0, .ref (q 0)), (1, .int u0), (2, .int u1), (3, .int u2), (4, .int u3), (8, .int u7)]) X dX7_isClear_135 (by decide) rfl rfl ?_
                      refine sf_iinc (i := 8) (j := 10) (d := 1) (lv' := fun y35 => [(8, .int y35), (7, .int (1 : Int32)), (6, .int y30), (5, .int y28), (10, .int r12), (9, .int u3), (0, .ref (q 0)), (1, .int u0), (2, .int u1), (3, .int u2), (4, .int u3)]) X dX7_isClear_137 rfl sf_ic_1 (by decide) (fun _ => rfl) rfl (fun y35 hy35 => ?_)
                      have h := h y35 hy35
                      refine sf_goto (tgt := 12) X dX7_isClear_140 rfl ?_
                      refine sf_loc (lv' := [(0, .ref (q 0)), (1, .int u0), (2, .int u1), (3, .int u2), (4, .int u3), (5, .int y28), (6, .int y30), (7, .int (1 : Int32)), (8, .int y35)]) [6, 7, 8, 9, 10, 3, 2, 1, 0] rfl ?_
                      exact h
                · have h := sf_ift c29 h
                  refine sf_iconst (v := 1) X dX7_isClear_112 sf_ic_1 rfl ?_
                  refine sf_goto (tgt := 117) X dX7_isClear_113 rfl ?_
                  refine sf_iadd X dX7_isClear_117 rfl ?_
                  refine sf_top (fun y36 hy36 => ?_)
                  have h := h y36 hy36
                  refine sf_istore (i := 6) (lv' := [(6, .int y36), (5, .int y28), (10, .int r12), (9, .int u3), (0, .ref (q 0)), (1, .int u0), (2, .int u1), (3, .int u2), (4, .int u3), (7, .int u6), (8, .int u7)]) X dX7_isClear_118 (by decide) rfl rfl ?_
                  refine sf_iload (i := 7) (j := 9) X dX7_isClear_120 rfl rfl ?_
                  refine sf_if_ne (tgt := 130) X dX7_isClear_122 rfl rfl (fun c37 => ?_) (fun c37 => ?_)
                  · have h := sf_iff c37 h
                    refine sf_iconst (v := 1) X dX7_isClear_130 sf_ic_1 rfl ?_
                    refine sf_goto (tgt := 135) X dX7_isClear_131 rfl ?_
                    refine sf_istore (i := 7) (lv' := [(7, .int (1 : Int32)), (6, .int y36), (5, .int y28), (10, .int r12), (9, .int u3), (0, .ref (q 0)), (1, .int u0), (2, .int u1), (3, .int u2), (4, .int u3), (8, .int u7)]) X dX7_isClear_135 (by decide) rfl rfl ?_
                    refine sf_iinc (i := 8) (j := 10) (d := 1) (lv' := fun y38 => [(8, .int y38), (7, .int (1 : Int32)), (6, .int y36), (5, .int y28), (10, .int r12), (9, .int u3), (0, .ref (q 0)), (1, .int u0), (2, .int u1), (3, .int u2), (4, .int u3)]) X dX7_isClear_137 rfl sf_ic_1 (by decide) (fun _ => rfl) rfl (fun y38 hy38 => ?_)
                    have h := h y38 hy38
                    refine sf_goto (tgt := 12) X dX7_isClear_140 rfl ?_
                    refine sf_loc (lv' := [(0, .ref (q 0)), (1, .int u0), (2, .int u1), (3, .int u2), (4, .int u3), (5, .int y28), (6, .int y36), (7, .int (1 : Int32)), (8, .int y38)]) [6, 7, 8, 9, 10, 3, 2, 1, 0] rfl ?_
                    exact h
                  · have h := sf_ift c37 h
                    refine sf_iload (i := 10) (j := 2) X dX7_isClear_125 rfl rfl ?_
                    refine sf_if_ne (tgt := 134) X dX7_isClear_127 rfl rfl (fun c39 => ?_) (fun c39 => ?_)
                    · have h := sf_iff c39 h
                      refine sf_iconst (v := 0) X dX7_isClear_134 sf_ic_0 rfl ?_
                      refine sf_istore (i := 7) (lv' := [(7, .int (0 : Int32)), (6, .int y36), (5, .int y28), (10, .int r12), (9, .int u3), (0, .ref (q 0)), (1, .int u0), (2, .int u1), (3, .int u2), (4, .int u3), (8, .int u7)]) X dX7_isClear_135 (by decide) rfl rfl ?_
                      refine sf_iinc (i := 8) (j := 10) (d := 1) (lv' := fun y40 => [(8, .int y40), (7, .int (0 : Int32)), (6, .int y36), (5, .int y28), (10, .int r12), (9, .int u3), (0, .ref (q 0)), (1, .int u0), (2, .int u1), (3, .int u2), (4, .int u3)]) X dX7_isClear_137 rfl sf_ic_1 (by decide) (fun _ => rfl) rfl (fun y40 hy40 => ?_)
                      have h := h y40 hy40
                      refine sf_goto (tgt := 12) X dX7_isClear_140 rfl ?_
                      refine sf_loc (lv' := [(0, .ref (q 0)), (1, .int u0), (2, .int u1), (3, .int u2), (4, .int u3), (5, .int y28), (6, .int y36), (7, .int (0 : Int32)), (8, .int y40)]) [6, 7, 8, 9, 10, 3, 2, 1, 0] rfl ?_
                      exact h
                    · have h := sf_ift c39 h
                      refine sf_iconst (v := 1) X dX7_isClear_130 sf_ic_1 rfl ?_
                      refine sf_goto (tgt := 135) X dX7_isClear_131 rfl ?_
                      refine sf_istore (i := 7) (lv' := [(7, .int (1 : Int32)), (6, .int y36), (5, .int y28), (10, .int r12), (9, .int u3), (0, .ref (q 0)), (1, .int u0), (2, .int u1), (3, .int u2), (4, .int u3), (8, .int u7)]) X dX7_isClear_135 (by decide) rfl rfl ?_
                      refine sf_iinc (i := 8) (j := 10) (d := 1) (lv' := fun y41 => [(8, .int y41), (7, .int (1 : Int32)), (6, .int y36), (5, .int y28), (10, .int r12), (9, .int u3), (0, .ref (q 0)), (1, .int u0), (2, .int u1), (3, .int u2), (4, .int u3)]) X dX7_isClear_137 rfl sf_ic_1 (by decide) (fun _ => rfl) rfl (fun y41 hy41 => ?_)
                      have h := h y41 hy41
                      refine sf_goto (tgt := 12) X dX7_isClear_140 rfl ?_
                      refine sf_loc (lv' := [(0, .ref (q 0)), (1, .int u0), (2, .int u1), (3, .int u2), (4, .int u3), (5, .int y28), (6, .int y36), (7, .int (1 : Int32)), (8, .int y41)]) [6, 7, 8, 9, 10, 3, 2, 1, 0] rfl ?_
                      exact h
            · have h := sf_ift c9 h
              refine sf_iconst (v := 2) X dX7_isClear_74 sf_ic_2 rfl ?_
              refine sf_goto (tgt := 86) X dX7_isClear_75 rfl ?_
              refine sf_istore (i := 10) (lv' := [(10, .int (2 : Int32)), (9, .int u3), (0, .ref (q 0)), (1, .int u0), (2, .int u1), (3, .int u2), (4, .int u3), (5, .int u4), (6, .int u5), (7, .int u6), (8, .int u7)]) X dX7_isClear_86 (by decide) rfl rfl ?_
              refine sf_iload (i := 5) (j := 7) X dX7_isClear_88 rfl rfl ?_
              refine sf_iload (i := 10) (j := 0) X dX7_isClear_90 rfl rfl ?_
              refine sf_iconst (v := 1) X dX7_isClear_92 sf_ic_1 rfl ?_
              refine sf_icmp_ne (tgt := 100) X dX7_isClear_93 rfl rfl (fun c42 => ?_) (fun c42 => ?_)
              · have h := sf_iff c42 h
                refine sf_iconst (v := 0) X dX7_isClear_100 sf_ic_0 rfl ?_
                refine sf_iadd X dX7_isClear_101 rfl ?_
                refine sf_top (fun y43 hy43 => ?_)
                have h := h y43 hy43
                refine sf_istore (i := 5) (lv' := [(5, .int y43), (10, .int (2 : Int32)), (9, .int u3), (0, .ref (q 0)), (1, .int u0), (2, .int u1), (3, .int u2), (4, .int u3), (6, .int u5), (7, .int u6), (8, .int u7)]) X dX7_isClear_102 (by decide) rfl rfl ?_
                refine sf_iload (i := 6) (j := 8) X dX7_isClear_104 rfl rfl ?_
                refine sf_iload (i := 10) (j := 1) X dX7_isClear_106 rfl rfl ?_
                refine sf_iconst (v := (-1)) X dX7_isClear_108 sf_ic_m1 rfl ?_
                refine sf_icmp_ne (tgt := 116) X dX7_isClear_109 rfl rfl (fun c44 => ?_) (fun c44 => ?_)
                · have h := sf_iff c44 h
                  refine sf_iconst (v := 0) X dX7_isClear_116 sf_ic_0 rfl ?_
                  refine sf_iadd X dX7_isClear_117 rfl ?_
                  refine sf_top (fun y45 hy45 => ?_)
                  have h := h y45 hy45
                  refine sf_istore (i := 6) (lv' := [(6, .int y45), (5, .int y43), (10, .int (2 : Int32)), (9, .int u3), (0, .ref (q 0)), (1, .int u0), (2, .int u1), (3, .int u2), (4, .int u3), (7, .int u6), (8, .int u7)]) X dX7_isClear_118 (by decide) rfl rfl ?_
                  refine sf_iload (i := 7) (j := 9) X dX7_isClear_120 rfl rfl ?_
                  refine sf_if_ne (tgt := 130) X dX7_isClear_122 rfl rfl (fun c46 => ?_) (fun c46 => ?_)
                  · have h := sf_iff c46 h
                    refine sf_iconst (v := 1) X dX7_isClear_130 sf_ic_1 rfl ?_
                    refine sf_goto (tgt := 135) X dX7_isClear_131 rfl ?_
                    refine sf_istore (i := 7) (lv' := [(7, .int (1 : Int32)), (6, .int y45), (5, .int y43), (10, .int (2 : Int32)), (9, .int u3), (0, .ref (q 0)), (1, .int u0), (2, .int u1), (3, .int u2), (4, .int u3), (8, .int u7)]) X dX7_isClear_135 (by decide) rfl rfl ?_
                    refine sf_iinc (i := 8) (j := 10) (d := 1) (lv' := fun y47 => [(8, .int y47), (7, .int (1 : Int32)), (6, .int y45), (5, .int y43), (10, .int (2 : Int32)), (9, .int u3), (0, .ref (q 0)), (1, .int u0), (2, .int u1), (3, .int u2), (4, .int u3)]) X dX7_isClear_137 rfl sf_ic_1 (by decide) (fun _ => rfl) rfl (fun y47 hy47 => ?_)
                    have h := h y47 hy47
                    refine sf_goto (tgt := 12) X dX7_isClear_140 rfl ?_
                    refine sf_loc (lv' := [(0, .ref (q 0)), (1, .int u0), (2, .int u1), (3, .int u2), (4, .int u3), (5, .int y43), (6, .int y45), (7, .int (1 : Int32)), (8, .int y47)]) [6, 7, 8, 9, 10, 3, 2, 1, 0] rfl ?_
                    exact h
                  · have h := sf_ift c46 h
                    refine sf_iload (i := 10) (j := 2) X dX7_isClear_125 rfl rfl ?_
                    refine sf_if_ne (tgt := 134) X dX7_isClear_127 rfl rfl (fun c48 => ?_) (fun c48 => ?_)
                    · have h := sf_iff c48 h
                      refine sf_iconst (v := 0) X dX7_isClear_134 sf_ic_0 rfl ?_
                      refine sf_istore (i := 7) (lv' := [(7, .int (0 : Int32)), (6, .int y45), (5, .int y43), (10, .int (2 : Int32)), (9, .int u3), (0, .ref (q 0)), (1, .int u0), (2, .int u1), (3, .int u2), (4, .int u3), (8, .int u7)]) X dX7_isClear_135 (by decide) rfl rfl ?_
                      refine sf_iinc (i := 8) (j := 10) (d := 1) (lv' := fun y49 => [(8, .int y49), (7, .int (0 : Int32)), (6, .int y45), (5, .int y43), (10, .int (2 : Int32)), (9, .int u3), (0, .ref (q 0)), (1, .int u0), (2, .int u1), (3, .int u2), (4, .int u3)]) X dX7_isClear_137 rfl sf_ic_1 (by decide) (fun _ => rfl) rfl (fun y49 hy49 => ?_)
                      have h := h y49 hy49
                      refine sf_goto (tgt := 12) X dX7_isClear_140 rfl ?_
                      refine sf_loc (lv' := [(0, .ref (q 0)), (1, .int u0), (2, .int u1), (3, .int u2), (4, .int u3), (5, .int y43), (6, .int y45), (7, .int (0 : Int32)), (8, .int y49)]) [6, 7, 8, 9, 10, 3, 2, 1, 0] rfl ?_
                      exact h
                    · have h := sf_ift c48 h
                      refine sf_iconst (v := 1) X dX7_isClear_130 sf_ic_1 rfl ?_
                      refine sf_goto (tgt := 135) X dX7_isClear_131 rfl ?_
                      refine sf_istore (i := 7) (lv' := [(7, .int (1 : Int32)), (6, .int y45), (5, .int y43), (10, .int (2 : Int32)), (9, .int u3), (0, .ref (q 0)), (1, .int u0), (2, .int u1), (3, .int u2), (4, .int u3), (8, .int u7)]) X dX7_isClear_135 (by decide) rfl rfl ?_
                      refine sf_iinc (i := 8) (j := 10) (d := 1) (lv' := fun y50 => [(8, .int y50), (7, .int (1 : Int32)), (6, .int y45), (5, .int y43), (10, .int (2 : Int32)), (9, .int u3), (0, .ref (q 0)), (1, .int u0), (2, .int u1), (3, .int u2), (4, .int u3)]) X dX7_isClear_137 rfl sf_ic_1 (by decide) (fun _ => rfl) rfl (fun y50 hy50 => ?_)
                      have h := h y50 hy50
                      refine sf_goto (tgt := 12) X dX7_isClear_140 rfl ?_
                      refine sf_loc (lv' := [(0, .ref (q 0)), (1, .int u0), (2, .int u1), (3, .int u2), (4, .int u3), (5, .int y43), (6, .int y45), (7, .int (1 : Int32)), (8, .int y50)]) [6, 7, 8, 9, 10, 3, 2, 1, 0] rfl ?_
                      exact h
                · have h := sf_ift c44 h
                  refine sf_iconst (v := 1) X dX7_isClear_112 sf_ic_1 rfl ?_
                  refine sf_goto (tgt := 117) X dX7_isClear_113 rfl ?_
                  refine sf_iadd X dX7_isClear_117 rfl ?_
                  refine sf_top (fun y51 hy51 => ?_)
                  have h := h y51 hy51
                  refine sf_istore (i := 6) (lv' := [(6, .int y51), (5, .int y43), (10, .int (2 : Int32)), (9, .int u3), (0, .ref (q 0)), (1, .int u0), (2, .int u1), (3, .int u2), (4, .int u3), (7, .int u6), (8, .int u7)]) X dX7_isClear_118 (by decide) rfl rfl ?_
                  refine sf_iload (i := 7) (j := 9) X dX7_isClear_120 rfl rfl ?_
                  refine sf_if_ne (tgt := 130) X dX7_isClear_122 rfl rfl (fun c52 => ?_) (fun c52 => ?_)
                  · have h := sf_iff c52 h
                    refine sf_iconst (v := 1) X dX7_isClear_130 sf_ic_1 rfl ?_
                    refine sf_goto (tgt := 135) X dX7_isClear_131 rfl ?_
                    refine sf_istore (i := 7) (lv' := [(7, .int (1 : Int32)), (6, .int y51), (5, .int y43), (10, .int (2 : Int32)), (9, .int u3), (0, .ref (q 0)), (1, .int u0), (2, .int u1), (3, .int u2), (4, .int u3), (8, .int u7)]) X dX7_isClear_135 (by decide) rfl rfl ?_
                    refine sf_iinc (i := 8) (j := 10) (d := 1) (lv' := fun y53 => [(8, .int y53), (7, .int (1 : Int32)), (6, .int y51), (5, .int y43), (10, .int (2 : Int32)), (9, .int u3), (0, .ref (q 0)), (1, .int u0), (2, .int u1), (3, .int u2), (4, .int u3)]) X dX7_isClear_137 rfl sf_ic_1 (by decide) (fun _ => rfl) rfl (fun y53 hy53 => ?_)
                    have h := h y53 hy53
                    refine sf_goto (tgt := 12) X dX7_isClear_140 rfl ?_
                    refine sf_loc (lv' := [(0, .ref (q 0)), (1, .int u0), (2, .int u1), (3, .int u2), (4, .int u3), (5, .int y43), (6, .int y51), (7, .int (1 : Int32)), (8, .int y53)]) [6, 7, 8, 9, 10, 3, 2, 1, 0] rfl ?_
                    exact h
                  · have h := sf_ift c52 h
                    refine sf_iload (i := 10) (j := 2) X dX7_isClear_125 rfl rfl ?_
                    refine sf_if_ne (tgt := 134) X dX7_isClear_127 rfl rfl (fun c54 => ?_) (fun c54 => ?_)
                    · have h := sf_iff c54 h
                      refine sf_iconst (v := 0) X dX7_isClear_134 sf_ic_0 rfl ?_
                      refine sf_istore (i := 7) (lv' := [(7, .int (0 : Int32)), (6, .int y51), (5, .int y43), (10, .int (2 : Int32)), (9, .int u3), (0, .ref (q 0)), (1, .int u0), (2, .int u1), (3, .int u2), (4, .int u3), (8, .int u7)]) X dX7_isClear_135 (by decide) rfl rfl ?_
                      refine sf_iinc (i := 8) (j := 10) (d := 1) (lv' := fun y55 => [(8, .int y55), (7, .int (0 : Int32)), (6, .int y51), (5, .int y43), (10, .int (2 : Int32)), (9, .int u3), (0, .ref (q 0)), (1, .int u0), (2, .int u1), (3, .int u2), (4, .int u3)]) X dX7_isClear_137 rfl sf_ic_1 (by decide) (fun _ => rfl) rfl (fun y55 hy55 => ?_)
                      have h := h y55 hy55
                      refine sf_goto (tgt := 12) X dX7_isClear_140 rfl ?_
                      refine sf_loc (lv' := [(0, .ref (q 0)), (1, .int u0), (2, .int u1), (3, .int u2), (4, .int u3), (5, .int y43), (6, .int y51), (7, .int (0 : Int32)), (8, .int y55)]) [6, 7, 8, 9, 10, 3, 2, 1, 0] rfl ?_
                      exact h
                    · have h := sf_ift c54 h
                      refine sf_iconst (v := 1) X dX7_isClear_130 sf_ic_1 rfl ?_
                      refine sf_goto (tgt := 135) X dX7_isClear_131 rfl ?_
                      refine sf_istore (i := 7) (lv' := [(7, .int (1 : Int32)), (6, .int y51), (5, .int y43), (10, .int (2 : Int32)), (9, .int u3), (0, .ref (q 0)), (1, .int u0), (2, .int u1), (3, .int u2), (4, .int u3), (8, .int u7)]) X dX7_isClear_135 (by decide) rfl rfl ?_
                      refine sf_iinc (i := 8) (j := 10) (d := 1) (lv' := fun y56 => [(8, .int y56), (7, .int (1 : Int32)), (6, .int y51), (5, .int y43), (10, .int (2 : Int32)), (9, .int u3), (0, .ref (q 0)), (1, .int u0), (2, .int u1), (3, .int u2), (4, .int u3)]) X dX7_isClear_137 rfl sf_ic_1 (by decide) (fun _ => rfl) rfl (fun y56 hy56 => ?_)
                      have h := h y56 hy56
                      refine sf_goto (tgt := 12) X dX7_isClear_140 rfl ?_
                      refine sf_loc (lv' := [(0, .ref (q 0)), (1, .int u0), (2, .int u1), (3, .int u2), (4, .int u3), (5, .int y43), (6, .int y51), (7, .int (1 : Int32)), (8, .int y56)]) [6, 7, 8, 9, 10, 3, 2, 1, 0] rfl ?_
                      exact h
              · have h := sf_ift c42 h
                refine sf_iconst (v := 1) X dX7_isClear_96 sf_ic_1 rfl ?_
                refine sf_goto (tgt := 101) X dX7_isClear_97 rfl ?_
                refine sf_iadd X dX7_isClear_101 rfl ?_
                refine sf_top (fun y57 hy57 => ?_)
                have h := h y57 hy57
                refine sf_istore (i := 5) (lv' := [(5, .int y57), (10, .int (2 : Int32)), (9, .int u3), (0, .ref (q 0)), (1, .int u0), (2, .int u1), (3, .int u2), (4, .int u3), (6, .int u5), (7, .int u6), (8, .int u7)]) X dX7_isClear_102 (by decide) rfl rfl ?_
                refine sf_iload (i := 6) (j := 8) X dX7_isClear_104 rfl rfl ?_
                refine sf_iload (i := 10) (j := 1) X dX7_isClear_106 rfl rfl ?_
                refine sf_iconst (v := (-1)) X dX7_isClear_108 sf_ic_m1 rfl ?_
                refine sf_icmp_ne (tgt := 116) X dX7_isClear_109 rfl rfl (fun c58 => ?_) (fun c58 => ?_)
                · have h := sf_iff c58 h
                  refine sf_iconst (v := 0) X dX7_isClear_116 sf_ic_0 rfl ?_
                  refine sf_iadd X dX7_isClear_117 rfl ?_
                  refine sf_top (fun y59 hy59 => ?_)
                  have h := h y59 hy59
                  refine sf_istore (i := 6) (lv' := [(6, .int y59), (5, .int y57), (10, .int (2 : Int32)), (9, .int u3), (0, .ref (q 0)), (1, .int u0), (2, .int u1), (3, .int u2), (4, .int u3), (7, .int u6), (8, .int u7)]) X dX7_isClear_118 (by decide) rfl rfl ?_
                  refine sf_iload (i := 7) (j := 9) X dX7_isClear_120 rfl rfl ?_
                  refine sf_if_ne (tgt := 130) X dX7_isClear_122 rfl rfl (fun c60 => ?_) (fun c60 => ?_)
                  · have h := sf_iff c60 h
                    refine sf_iconst (v := 1) X dX7_isClear_130 sf_ic_1 rfl ?_
                    refine sf_goto (tgt := 135) X dX7_isClear_131 rfl ?_
                    refine sf_istore (i := 7) (lv' := [(7, .int (1 : Int32)), (6, .int y59), (5, .int y57), (10, .int (2 : Int32)), (9, .int u3), (0, .ref (q 0)), (1, .int u0), (2, .int u1), (3, .int u2), (4, .int u3), (8, .int u7)]) X dX7_isClear_135 (by decide) rfl rfl ?_
                    refine sf_iinc (i := 8) (j := 10) (d := 1) (lv' := fun y61 => [(8, .int y61), (7, .int (1 : Int32)), (6, .int y59), (5, .int y57), (10, .int (2 : Int32)), (9, .int u3), (0, .ref (q 0)), (1, .int u0), (2, .int u1), (3, .int u2), (4, .int u3)]) X dX7_isClear_137 rfl sf_ic_1 (by decide) (fun _ => rfl) rfl (fun y61 hy61 => ?_)
                    have h := h y61 hy61
                    refine sf_goto (tgt := 12) X dX7_isClear_140 rfl ?_
                    refine sf_loc (lv' := [(0, .ref (q 0)), (1, .int u0), (2, .int u1), (3, .int u2), (4, .int u3), (5, .int y57), (6, .int y59), (7, .int (1 : Int32)), (8, .int y61)]) [6, 7, 8, 9, 10, 3, 2, 1, 0] rfl ?_
                    exact h
                  · have h := sf_ift c60 h
                    refine sf_iload (i := 10) (j := 2) X dX7_isClear_125 rfl rfl ?_
                    refine sf_if_ne (tgt := 134) X dX7_isClear_127 rfl rfl (fun c62 => ?_) (fun c62 => ?_)
                    · have h := sf_iff c62 h
                      refine sf_iconst (v := 0) X dX7_isClear_134 sf_ic_0 rfl ?_
                      refine sf_istore (i := 7) (lv' := [(7, .int (0 : Int32)), (6, .int y59), (5, .int y57), (10, .int (2 : Int32)), (9, .int u3), (0, .ref (q 0)), (1, .int u0), (2, .int u1), (3, .int u2), (4, .int u3), (8, .int u7)]) X dX7_isClear_135 (by decide) rfl rfl ?_
                      refine sf_iinc (i := 8) (j := 10) (d := 1) (lv' := fun y63 => [(8, .int y63), (7, .int (0 : Int32)), (6, .int y59), (5, .int y57), (10, .int (2 : Int32)), (9, .int u3), (0, .ref (q 0)), (1, .int u0), (2, .int u1), (3, .int u2), (4, .int u3)]) X dX7_isClear_137 rfl sf_ic_1 (by decide) (fun _ => rfl) rfl (fun y63 hy63 => ?_)
                      have h := h y63 hy63
                      refine sf_goto (tgt := 12) X dX7_isClear_140 rfl ?_
                      refine sf_loc (lv' := [(0, .ref (q 0)), (1, .int u0), (2, .int u1), (3, .int u2), (4, .int u3), (5, .int y57), (6, .int y59), (7, .int (0 : Int32)), (8, .int y63)]) [6, 7, 8, 9, 10, 3, 2, 1, 0] rfl ?_
                      exact h
                    · have h := sf_ift c62 h
                      refine sf_iconst (v := 1) X dX7_isClear_130 sf_ic_1 rfl ?_
                      refine sf_goto (tgt := 135) X dX7_isClear_131 rfl ?_
                      refine sf_istore (i := 7) (lv' := [(7, .int (1 : Int32)), (6, .int y59), (5, .int y57), (10, .int (2 : Int32)), (9, .int u3), (0, .ref (q 0)), (1, .int u0), (2, .int u1), (3, .int u2), (4, .int u3), (8, .int u7)]) X dX7_isClear_135 (by decide) rfl rfl ?_
                      refine sf_iinc (i := 8) (j := 10) (d := 1) (lv' := fun y64 => [(8, .int y64), (7, .int (1 : Int32)), (6, .int y59), (5, .int y57), (10, .int (2 : Int32)), (9, .int u3), (0, .ref (q 0)), (1, .int u0), (2, .int u1), (3, .int u2), (4, .int u3)]) X dX7_isClear_137 rfl sf_ic_1 (by decide) (fun _ => rfl) rfl (fun y64 hy64 => ?_)
                      have h := h y64 hy64
                      refine sf_goto (tgt := 12) X dX7_isClear_140 rfl ?_
                      refine sf_loc (lv' := [(0, .ref (q 0)), (1, .int u0), (2, .int u1), (3, .int u2), (4, .int u3), (5, .int y57), (6, .int y59), (7, .int (1 : Int32)), (8, .int y64)]) [6, 7, 8, 9, 10, 3, 2, 1, 0] rfl ?_
                      exact h
                · have h := sf_ift c58 h
                  refine sf_iconst (v := 1) X dX7_isClear_112 sf_ic_1 rfl ?_
                  refine sf_goto (tgt := 117) X dX7_isClear_113 rfl ?_
                  refine sf_iadd X dX7_isClear_117 rfl ?_
                  refine sf_top (fun y65 hy65 => ?_)
                  have h := h y65 hy65
                  refine sf_istore (i := 6) (lv' := [(6, .int y65), (5, .int y57), (10, .int (2 : Int32)), (9, .int u3), (0, .ref (q 0)), (1, .int u0), (2, .int u1), (3, .int u2), (4, .int u3), (7, .int u6), (8, .int u7)]) X dX7_isClear_118 (by decide) rfl rfl ?_
                  refine sf_iload (i := 7) (j := 9) X dX7_isClear_120 rfl rfl ?_
                  refine sf_if_ne (tgt := 130) X dX7_isClear_122 rfl rfl (fun c66 => ?_) (fun c66 => ?_)
                  · have h := sf_iff c66 h
                    refine sf_iconst (v := 1) X dX7_isClear_130 sf_ic_1 rfl ?_
                    refine sf_goto (tgt := 135) X dX7_isClear_131 rfl ?_
                    refine sf_istore (i := 7) (lv' := [(7, .int (1 : Int32)), (6, .int y65), (5, .int y57), (10, .int (2 : Int32)), (9, .int u3), (0, .ref (q 0)), (1, .int u0), (2, .int u1), (3, .int u2), (4, .int u3), (8, .int u7)]) X dX7_isClear_135 (by decide) rfl rfl ?_
                    refine sf_iinc (i := 8) (j := 10) (d := 1) (lv' := fun y67 => [(8, .int y67), (7, .int (1 : Int32)), (6, .int y65), (5, .int y57), (10, .int (2 : Int32)), (9, .int u3), (0, .ref (q 0)), (1, .int u0), (2, .int u1), (3, .int u2), (4, .int u3)]) X dX7_isClear_137 rfl sf_ic_1 (by decide) (fun _ => rfl) rfl (fun y67 hy67 => ?_)
                    have h := h y67 hy67
                    refine sf_goto (tgt := 12) X dX7_isClear_140 rfl ?_
                    refine sf_loc (lv' := [(0, .ref (q 0)), (1, .int u0), (2, .int u1), (3, .int u2), (4, .int u3), (5, .int y57), (6, .int y65), (7, .int (1 : Int32)), (8, .int y67)]) [6, 7, 8, 9, 10, 3, 2, 1, 0] rfl ?_
                    exact h
                  · have h := sf_ift c66 h
                    refine sf_iload (i := 10) (j := 2) X dX7_isClear_125 rfl rfl ?_
                    refine sf_if_ne (tgt := 134) X dX7_isClear_127 rfl rfl (fun c68 => ?_) (fun c68 => ?_)
                    · have h := sf_iff c68 h
                      refine sf_iconst (v := 0) X dX7_isClear_134 sf_ic_0 rfl ?_
                      refine sf_istore (i := 7) (lv' := [(7, .int (0 : Int32)), (6, .int y65), (5, .int y57), (10, .int (2 : Int32)), (9, .int u3), (0, .ref (q 0)), (1, .int u0), (2, .int u1), (3, .int u2), (4, .int u3), (8, .int u7)]) X dX7_isClear_135 (by decide) rfl rfl ?_
                      refine sf_iinc (i := 8) (j := 10) (d := 1) (lv' := fun y69 => [(8, .int y69), (7, .int (0 : Int32)), (6, .int y65), (5, .int y57), (10, .int (2 : Int32)), (9, .int u3), (0, .ref (q 0)), (1, .int u0), (2, .int u1), (3, .int u2), (4, .int u3)]) X dX7_isClear_137 rfl sf_ic_1 (by decide) (fun _ => rfl) rfl (fun y69 hy69 => ?_)
                      have h := h y69 hy69
                      refine sf_goto (tgt := 12) X dX7_isClear_140 rfl ?_
                      refine sf_loc (lv' := [(0, .ref (q 0)), (1, .int u0), (2, .int u1), (3, .int u2), (4, .int u3), (5, .int y57), (6, .int y65), (7, .int (0 : Int32)), (8, .int y69)]) [6, 7, 8, 9, 10, 3, 2, 1, 0] rfl ?_
                      exact h
                    · have h := sf_ift c68 h
                      refine sf_iconst (v := 1) X dX7_isClear_130 sf_ic_1 rfl ?_
                      refine sf_goto (tgt := 135) X dX7_isClear_131 rfl ?_
                      refine sf_istore (i := 7) (lv' := [(7, .int (1 : Int32)), (6, .int y65), (5, .int y57), (10, .int (2 : Int32)), (9, .int u3), (0, .ref (q 0)), (1, .int u0), (2, .int u1), (3, .int u2), (4, .int u3), (8, .int u7)]) X dX7_isClear_135 (by decide) rfl rfl ?_
                      refine sf_iinc (i := 8) (j := 10) (d := 1) (lv' := fun y70 => [(8, .int y70), (7, .int (1 : Int32)), (6, .int y65), (5, .int y57), (10, .int (2 : Int32)), (9, .int u3), (0, .ref (q 0)), (1, .int u0), (2, .int u1), (3, .int u2), (4, .int u3)]) X dX7_isClear_137 rfl sf_ic_1 (by decide) (fun _ => rfl) rfl (fun y70 hy70 => ?_)
                      have h := h y70 hy70
                      refine sf_goto (tgt := 12) X dX7_isClear_140 rfl ?_
                      refine sf_loc (lv' := [(0, .ref (q 0)), (1, .int u0), (2, .int u1), (3, .int u2), (4, .int u3), (5, .int y57), (6, .int y65), (7, .int (1 : Int32)), (8, .int y70)]) [6, 7, 8, 9, 10, 3, 2, 1, 0] rfl ?_
                      exact h
          · have h := sf_ift c8 h
            refine sf_aload_n (i := 0) (j := 0) X dX7_isClear_53 rfl rfl rfl ?_
            refine sf_getR (C := RX7) (T := TX7) (N := 23) (ci := 7) (j := 5) (k' := 4) X (fun w h => sf_memc (inX7 w h)) rfl rfl (by decide) (X.1.2.2.2.2 _ (sf_memc tw_636)) (fun _ h9 => h9) rfl dX7_isClear_54 rfl ?_
            refine sf_iload (i := 8) (j := 8) X dX7_isClear_57 rfl rfl ?_
            obtain ⟨b71, h⟩ := h
            refine sf_iald X rfl b71 dX7_isClear_59 rfl ?_
            refine sf_goto (tgt := 65) X dX7_isClear_60 rfl ?_
            refine sf_top (fun y72 hy72 => ?_)
            have h := h y72 hy72
            refine sf_istore (i := 9) (lv' := [(9, .int y72), (0, .ref (q 0)), (1, .int u0), (2, .int u1), (3, .int u2), (4, .int u3), (5, .int u4), (6, .int u5), (7, .int u6), (8, .int u7)]) X dX7_isClear_65 (by decide) rfl rfl ?_
            refine sf_iload (i := 9) (j := 0) X dX7_isClear_67 rfl rfl ?_
            refine sf_iload (i := 4) (j := 5) X dX7_isClear_69 rfl rfl ?_
            refine sf_icmp_ne (tgt := 78) X dX7_isClear_71 rfl rfl (fun c73 => ?_) (fun c73 => ?_)
            · have h := sf_iff c73 h
              refine sf_aload_n (i := 0) (j := 1) X dX7_isClear_78 rfl rfl rfl ?_
              refine sf_iload_n (i := 1) (j := 2) X dX7_isClear_79 rfl rfl rfl ?_
              refine sf_iload_n (i := 2) (j := 3) X dX7_isClear_80 rfl rfl rfl ?_
              refine sf_iload (i := 9) (j := 0) X dX7_isClear_81 rfl rfl ?_
              obtain ⟨r76, τ75, hR74, h⟩ := h
              refine sf_callVi (As := [.int u0, .int u1, .int y72]) (rest := []) (cv := (RX7, TX7, 23)) X rfl rfl (c_X7_side hq hR74) (cwV 3 X.1.2.2.2.2 (sf_gV tw_794 tw_796 tw_27 tw_48 tw_797) rfl rfl rfl ⟨rfl, hd_X7_side⟩ ⟨Nat.le_of_ble_eq_true rfl, Nat.le_of_ble_eq_true rfl⟩) rfl rfl (Nat.le_of_ble_eq_true rfl) dX7_isClear_83 rfl ?_
              refine sf_istore (i := 10) (lv' := [(10, .int r76), (9, .int y72), (0, .ref (q 0)), (1, .int u0), (2, .int u1), (3, .int u2), (4, .int u3), (5, .int u4), (6, .int u5), (7, .int u6), (8, .int u7)]) X dX7_isClear_86 (by decide) rfl rfl ?_
              refine sf_iload (i := 5) (j := 7) X dX7_isClear_88 rfl rfl ?_
              refine sf_iload (i := 10) (j := 0) X dX7_isClear_90 rfl rfl ?_
              refine sf_iconst (v := 1) X dX7_isClear_92 sf_ic_1 rfl ?_
              refine sf_icmp_ne (tgt := 100) X dX7_isClear_93 rfl rfl (fun c77 => ?_) (fun c77 => ?_)
              · have h := sf_iff c77 h
                refine sf_iconst (v := 0) X dX7_isClear_100 sf_ic_0 rfl ?_
                refine sf_iadd X dX7_isClear_101 rfl ?_
                refine sf_top (fun y78 hy78 => ?_)
                have h := h y78 hy78
                refine sf_istore (i := 5) (lv' := [(5, .int y78), (10, .int r76), (9, .int y72), (0, .ref (q 0)), (1, .int u0), (2, .int u1), (3, .int u2), (4, .int u3), (6, .int u5), (7, .int u6), (8, .int u7)]) X dX7_isClear_102 (by decide) rfl rfl ?_
                refine sf_iload (i := 6) (j := 8) X dX7_isClear_104 rfl rfl ?_
                refine sf_iload (i := 10) (j := 1) X dX7_isClear_106 rfl rfl ?_
                refine sf_iconst (v := (-1)) X dX7_isClear_108 sf_ic_m1 rfl ?_
                refine sf_icmp_ne (tgt := 116) X dX7_isClear_109 rfl rfl (fun c79 => ?_) (fun c79 => ?_)
                · have h := sf_iff c79 h
                  refine sf_iconst (v := 0) X dX7_isClear_116 sf_ic_0 rfl ?_
                  refine sf_iadd X dX7_isClear_117 rfl ?_
                  refine sf_top (fun y80 hy80 => ?_)
                  have h := h y80 hy80
                  refine sf_istore (i := 6) (lv' := [(6, .int y80), (5, .int y78), (10, .int r76), (9, .int y72), (0, .ref (q 0)), (1, .int u0), (2, .int u1), (3, .int u2), (4, .int u3), (7, .int u6), (8, .int u7)]) X dX7_isClear_118 (by decide) rfl rfl ?_
                  refine sf_iload (i := 7) (j := 9) X dX7_isClear_120 rfl rfl ?_
                  refine sf_if_ne (tgt := 130) X dX7_isClear_122 rfl rfl (fun c81 => ?_) (fun c81 => ?_)
                  · have h := sf_iff c81 h
                    refine sf_iconst (v := 1) X dX7_isClear_130 sf_ic_1 rfl ?_
                    refine sf_goto (tgt := 135) X dX7_isClear_131 rfl ?_
                    refine sf_istore (i := 7) (lv' := [(7, .int (1 : Int32)), (6, .int y80), (5, .int y78), (10, .int r76), (9, .int y72), (0, .ref (q 0)), (1, .int u0), (2, .int u1), (3, .int u2), (4, .int u3), (8, .int u7)]) X dX7_isClear_135 (by decide) rfl rfl ?_
                    refine sf_iinc (i := 8) (j := 10) (d := 1) (lv' := fun y82 => [(8, .int y82), (7, .int (1 : Int32)), (6, .int y80), (5, .int y78), (10, .int r76), (9, .int y72), (0, .ref (q 0)), (1, .int u0), (2, .int u1), (3, .int u2), (4, .int u3)]) X dX7_isClear_137 rfl sf_ic_1 (by decide) (fun _ => rfl) rfl (fun y82 hy82 => ?_)
                    have h := h y82 hy82
                    refine sf_goto (tgt := 12) X dX7_isClear_140 rfl ?_
                    refine sf_loc (lv' := [(0, .ref (q 0)), (1, .int u0), (2, .int u1), (3, .int u2), (4, .int u3), (5, .int y78), (6, .int y80), (7, .int (1 : Int32)), (8, .int y82)]) [6, 7, 8, 9, 10, 3, 2, 1, 0] rfl ?_
                    exact h
                  · have h := sf_ift c81 h
                    refine sf_iload (i := 10) (j := 2) X dX7_isClear_125 rfl rfl ?_
                    refine sf_if_ne (tgt := 134) X dX7_isClear_127 rfl rfl (fun c83 => ?_) (fun c83 => ?_)
                    · have h := sf_iff c83 h
                      refine sf_iconst (v := 0) X dX7_isClear_134 sf_ic_0 rfl ?_
                      refine sf_istore (i := 7) (lv' := [(7, .int (0 : Int32)), (6, .int y80), (5, .int y78), (10, .int r76), (9, .int y72), (0, .ref (q 0)), (1, .int u0), (2, .int u1), (3, .int u2), (4, .int u3), (8, .int u7)]) X dX7_isClear_135 (by decide) rfl rfl ?_
                      refine sf_iinc (i := 8) (j := 10) (d := 1) (lv' := fun y84 => [(8, .int y84), (7, .int (0 : Int32)), (6, .int y80), (5, .int y78), (10, .int r76), (9, .int y72), (0, .ref (q 0)), (1, .int u0), (2, .int u1), (3, .int u2), (4, .int u3)]) X dX7_isClear_137 rfl sf_ic_1 (by decide) (fun _ => rfl) rfl (fun y84 hy84 => ?_)
                      have h := h y84 hy84
                      refine sf_goto (tgt := 12) X dX7_isClear_140 rfl ?_
                      refine sf_loc (lv' := [(0, .ref (q 0)), (1, .int u0), (2, .int u1), (3, .int u2), (4, .int u3), (5, .int y78), (6, .int y80), (7, .int (0 : Int32)), (8, .int y84)]) [6, 7, 8, 9, 10, 3, 2, 1, 0] rfl ?_
                      exact h
                    · have h := sf_ift c83 h
                      refine sf_iconst (v := 1) X dX7_isClear_130 sf_ic_1 rfl ?_
                      refine sf_goto (tgt := 135) X dX7_isClear_131 rfl ?_
                      refine sf_istore (i := 7) (lv' := [(7, .int (1 : Int32)), (6, .int y80), (5, .int y78), (10, .int r76), (9, .int y72), (0, .ref (q 0)), (1, .int u0), (2, .int u1), (3, .int u2), (4, .int u3), (8, .int u7)]) X dX7_isClear_135 (by decide) rfl rfl ?_
                      refine sf_iinc (i := 8) (j := 10) (d := 1) (lv' := fun y85 => [(8, .int y85), (7, .int (1 : Int32)), (6, .int y80), (5, .int y78), (10, .int r76), (9, .int y72), (0, .ref (q 0)), (1, .int u0), (2, .int u1), (3, .int u2), (4, .int u3)]) X dX7_isClear_137 rfl sf_ic_1 (by decide) (fun _ => rfl) rfl (fun y85 hy85 => ?_)
                      have h := h y85 hy85
                      refine sf_goto (tgt := 12) X dX7_isClear_140 rfl ?_
                      refine sf_loc (lv' := [(0, .ref (q 0)), (1, .int u0), (2, .int u1), (3, .int u2), (4, .int u3), (5, .int y78), (6, .int y80), (7, .int (1 : Int32)), (8, .int y85)]) [6, 7, 8, 9, 10, 3, 2, 1, 0] rfl ?_
                      exact h
                · have h := sf_ift c79 h
                  refine sf_iconst (v := 1) X dX7_isClear_112 sf_ic_1 rfl ?_
                  refine sf_goto (tgt := 117) X dX7_isClear_113 rfl ?_
                  refine sf_iadd X dX7_isClear_117 rfl ?_
                  refine sf_top (fun y86 hy86 => ?_)
                  have h := h y86 hy86
                  refine sf_istore (i := 6) (lv' := [(6, .int y86), (5, .int y78), (10, .int r76), (9, .int y72), (0, .ref (q 0)), (1, .int u0), (2, .int u1), (3, .int u2), (4, .int u3), (7, .int u6), (8, .int u7)]) X dX7_isClear_118 (by decide) rfl rfl ?_
                  refine sf_iload (i := 7) (j := 9) X dX7_isClear_120 rfl rfl ?_
                  refine sf_if_ne (tgt := 130) X dX7_isClear_122 rfl rfl (fun c87 => ?_) (fun c87 => ?_)
                  · have h := sf_iff c87 h
                    refine sf_iconst (v := 1) X dX7_isClear_130 sf_ic_1 rfl ?_
                    refine sf_goto (tgt := 135) X dX7_isClear_131 rfl ?_
                    refine sf_istore (i := 7) (lv' := [(7, .int (1 : Int32)), (6, .int y86), (5, .int y78), (10, .int r76), (9, .int y72), (0, .ref (q 0)), (1, .int u0), (2, .int u1), (3, .int u2), (4, .int u3), (8, .int u7)]) X dX7_isClear_135 (by decide) rfl rfl ?_
                    refine sf_iinc (i := 8) (j := 10) (d := 1) (lv' := fun y88 => [(8, .int y88), (7, .int (1 : Int32)), (6, .int y86), (5, .int y78), (10, .int r76), (9, .int y72), (0, .ref (q 0)), (1, .int u0), (2, .int u1), (3, .int u2), (4, .int u3)]) X dX7_isClear_137 rfl sf_ic_1 (by decide) (fun _ => rfl) rfl (fun y88 hy88 => ?_)
                    have h := h y88 hy88
                    refine sf_goto (tgt := 12) X dX7_isClear_140 rfl ?_
                    refine sf_loc (lv' := [(0, .ref (q 0)), (1, .int u0), (2, .int u1), (3, .int u2), (4, .int u3), (5, .int y78), (6, .int y86), (7, .int (1 : Int32)), (8, .int y88)]) [6, 7, 8, 9, 10, 3, 2, 1, 0] rfl ?_
                    exact h
                  · have h := sf_ift c87 h
                    refine sf_iload (i := 10) (j := 2) X dX7_isClear_125 rfl rfl ?_
                    refine sf_if_ne (tgt := 134) X dX7_isClear_127 rfl rfl (fun c89 => ?_) (fun c89 => ?_)
                    · have h := sf_iff c89 h
                      refine sf_iconst (v := 0) X dX7_isClear_134 sf_ic_0 rfl ?_
                      refine sf_istore (i := 7) (lv' := [(7, .int (0 : Int32)), (6, .int y86), (5, .int y78), (10, .int r76), (9, .int y72), (0, .ref (q 0)), (1, .int u0), (2, .int u1), (3, .int u2), (4, .int u3), (8, .int u7)]) X dX7_isClear_135 (by decide) rfl rfl ?_
                      refine sf_iinc (i := 8) (j := 10) (d := 1) (lv' := fun y90 => [(8, .int y90), (7, .int (0 : Int32)), (6, .int y86), (5, .int y78), (10, .int r76), (9, .int y72), (0, .ref (q 0)), (1, .int u0), (2, .int u1), (3, .int u2), (4, .int u3)]) X dX7_isClear_137 rfl sf_ic_1 (by decide) (fun _ => rfl) rfl (fun y90 hy90 => ?_)
                      have h := h y90 hy90
                      refine sf_goto (tgt := 12) X dX7_isClear_140 rfl ?_
                      refine sf_loc (lv' := [(0, .ref (q 0)), (1, .int u0), (2, .int u1), (3, .int u2), (4, .int u3), (5, .int y78), (6, .int y86), (7, .int (0 : Int32)), (8, .int y90)]) [6, 7, 8, 9, 10, 3, 2, 1, 0] rfl ?_
                      exact h
                    · have h := sf_ift c89 h
                      refine sf_iconst (v := 1) X dX7_isClear_130 sf_ic_1 rfl ?_
                      refine sf_goto (tgt := 135) X dX7_isClear_131 rfl ?_
                      refine sf_istore (i := 7) (lv' := [(7, .int (1 : Int32)), (6, .int y86), (5, .int y78), (10, .int r76), (9, .int y72), (0, .ref (q 0)), (1, .int u0), (2, .int u1), (3, .int u2), (4, .int u3), (8, .int u7)]) X dX7_isClear_135 (by decide) rfl rfl ?_
                      refine sf_iinc (i := 8) (j := 10) (d := 1) (lv' := fun y91 => [(8, .int y91), (7, .int (1 : Int32)), (6, .int y86), (5, .int y78), (10, .int r76), (9, .int y72), (0, .ref (q 0)), (1, .int u0), (2, .int u1), (3, .int u2), (4, .int u3)]) X dX7_isClear_137 rfl sf_ic_1 (by decide) (fun _ => rfl) rfl (fun y91 hy91 => ?_)
                      have h := h y91 hy91
                      refine sf_goto (tgt := 12) X dX7_isClear_140 rfl ?_
                      refine sf_loc (lv' := [(0, .ref (q 0)), (1, .int u0), (2, .int u1), (3, .int u2), (4, .int u3), (5, .int y78), (6, .int y86), (7, .int (1 : Int32)), (8, .int y91)]) [6, 7, 8, 9, 10, 3, 2, 1, 0] rfl ?_
                      exact h
              · have h := sf_ift c77 h
                refine sf_iconst (v := 1) X dX7_isClear_96 sf_ic_1 rfl ?_
                refine sf_goto (tgt := 101) X dX7_isClear_97 rfl ?_
                refine sf_iadd X dX7_isClear_101 rfl ?_
                refine sf_top (fun y92 hy92 => ?_)
                have h := h y92 hy92
                refine sf_istore (i := 5) (lv' := [(5, .int y92), (10, .int r76), (9, .int y72), (0, .ref (q 0)), (1, .int u0), (2, .int u1), (3, .int u2), (4, .int u3), (6, .int u5), (7, .int u6), (8, .int u7)]) X dX7_isClear_102 (by decide) rfl rfl ?_
                refine sf_iload (i := 6) (j := 8) X dX7_isClear_104 rfl rfl ?_
                refine sf_iload (i := 10) (j := 1) X dX7_isClear_106 rfl rfl ?_
                refine sf_iconst (v := (-1)) X dX7_isClear_108 sf_ic_m1 rfl ?_
                refine sf_icmp_ne (tgt := 116) X dX7_isClear_109 rfl rfl (fun c93 => ?_) (fun c93 => ?_)
                · have h := sf_iff c93 h
                  refine sf_iconst (v := 0) X dX7_isClear_116 sf_ic_0 rfl ?_
                  refine sf_iadd X dX7_isClear_117 rfl ?_
                  refine sf_top (fun y94 hy94 => ?_)
                  have h := h y94 hy94
                  refine sf_istore (i := 6) (lv' := [(6, .int y94), (5, .int y92), (10, .int r76), (9, .int y72), (0, .ref (q 0)), (1, .int u0), (2, .int u1), (3, .int u2), (4, .int u3), (7, .int u6), (8, .int u7)]) X dX7_isClear_118 (by decide) rfl rfl ?_
                  refine sf_iload (i := 7) (j := 9) X dX7_isClear_120 rfl rfl ?_
                  refine sf_if_ne (tgt := 130) X dX7_isClear_122 rfl rfl (fun c95 => ?_) (fun c95 => ?_)
                  · have h := sf_iff c95 h
                    refine sf_iconst (v := 1) X dX7_isClear_130 sf_ic_1 rfl ?_
                    refine sf_goto (tgt := 135) X dX7_isClear_131 rfl ?_
                    refine sf_istore (i := 7) (lv' := [(7, .int (1 : Int32)), (6, .int y94), (5, .int y92), (10, .int r76), (9, .int y72), (0, .ref (q 0)), (1, .int u0), (2, .int u1), (3, .int u2), (4, .int u3), (8, .int u7)]) X dX7_isClear_135 (by decide) rfl rfl ?_
                    refine sf_iinc (i := 8) (j := 10) (d := 1) (lv' := fun y96 => [(8, .int y96), (7, .int (1 : Int32)), (6, .int y94), (5, .int y92), (10, .int r76), (9, .int y72), (0, .ref (q 0)), (1, .int u0), (2, .int u1), (3, .int u2), (4, .int u3)]) X dX7_isClear_137 rfl sf_ic_1 (by decide) (fun _ => rfl) rfl (fun y96 hy96 => ?_)
                    have h := h y96 hy96
                    refine sf_goto (tgt := 12) X dX7_isClear_140 rfl ?_
                    refine sf_loc (lv' := [(0, .ref (q 0)), (1, .int u0), (2, .int u1), (3, .int u2), (4, .int u3), (5, .int y92), (6, .int y94), (7, .int (1 : Int32)), (8, .int y96)]) [6, 7, 8, 9, 10, 3, 2, 1, 0] rfl ?_
                    exact h
                  · have h := sf_ift c95 h
                    refine sf_iload (i := 10) (j := 2) X dX7_isClear_125 rfl rfl ?_
                    refine sf_if_ne (tgt := 134) X dX7_isClear_127 rfl rfl (fun c97 => ?_) (fun c97 => ?_)
                    · have h := sf_iff c97 h
                      refine sf_iconst (v := 0) X dX7_isClear_134 sf_ic_0 rfl ?_
                      refine sf_istore (i := 7) (lv' := [(7, .int (0 : Int32)), (6, .int y94), (5, .int y92), (10, .int r76), (9, .int y72), (0, .ref (q 0)), (1, .int u0), (2, .int u1), (3, .int u2), (4, .int u3), (8, .int u7)]) X dX7_isClear_135 (by decide) rfl rfl ?_
                      refine sf_iinc (i := 8) (j := 10) (d := 1) (lv' := fun y98 => [(8, .int y98), (7, .int (0 : Int32)), (6, .int y94), (5, .int y92), (10, .int r76), (9, .int y72), (0, .ref (q 0)), (1, .int u0), (2, .int u1), (3, .int u2), (4, .int u3)]) X dX7_isClear_137 rfl sf_ic_1 (by decide) (fun _ => rfl) rfl (fun y98 hy98 => ?_)
                      have h := h y98 hy98
                      refine sf_goto (tgt := 12) X dX7_isClear_140 rfl ?_
                      refine sf_loc (lv' := [(0, .ref (q 0)), (1, .int u0), (2, .int u1), (3, .int u2), (4, .int u3), (5, .int y92), (6, .int y94), (7, .int (0 : Int32)), (8, .int y98)]) [6, 7, 8, 9, 10, 3, 2, 1, 0] rfl ?_
                      exact h
                    · have h := sf_ift c97 h
                      refine sf_iconst (v := 1) X dX7_isClear_130 sf_ic_1 rfl ?_
                      refine sf_goto (tgt := 135) X dX7_isClear_131 rfl ?_
                      refine sf_istore (i := 7) (lv' := [(7, .int (1 : Int32)), (6, .int y94), (5, .int y92), (10, .int r76), (9, .int y72), (0, .ref (q 0)), (1, .int u0), (2, .int u1), (3, .int u2), (4, .int u3), (8, .int u7)]) X dX7_isClear_135 (by decide) rfl rfl ?_
                      refine sf_iinc (i := 8) (j := 10) (d := 1) (lv' := fun y99 => [(8, .int y99), (7, .int (1 : Int32)), (6, .int y94), (5, .int y92), (10, .int r76), (9, .int y72), (0, .ref (q 0)), (1, .int u0), (2, .int u1), (3, .int u2), (4, .int u3)]) X dX7_isClear_137 rfl sf_ic_1 (by decide) (fun _ => rfl) rfl (fun y99 hy99 => ?_)
                      have h := h y99 hy99
                      refine sf_goto (tgt := 12) X dX7_isClear_140 rfl ?_
                      refine sf_loc (lv' := [(0, .ref (q 0)), (1, .int u0), (2, .int u1), (3, .int u2), (4, .int u3), (5, .int y92), (6, .int y94), (7, .int (1 : Int32)), (8, .int y99)]) [6, 7, 8, 9, 10, 3, 2, 1, 0] rfl ?_
                      exact h
                · have h := sf_ift c93 h
                  refine sf_iconst (v := 1) X dX7_isClear_112 sf_ic_1 rfl ?_
                  refine sf_goto (tgt := 117) X dX7_isClear_113 rfl ?_
                  refine sf_iadd X dX7_isClear_117 rfl ?_
                  refine sf_top (fun y100 hy100 => ?_)
                  have h := h y100 hy100
                  refine sf_istore (i := 6) (lv' := [(6, .int y100), (5, .int y92), (10, .int r76), (9, .int y72), (0, .ref (q 0)), (1, .int u0), (2, .int u1), (3, .int u2), (4, .int u3), (7, .int u6), (8, .int u7)]) X dX7_isClear_118 (by decide) rfl rfl ?_
                  refine sf_iload (i := 7) (j := 9) X dX7_isClear_120 rfl rfl ?_
                  refine sf_if_ne (tgt := 130) X dX7_isClear_122 rfl rfl (fun c101 => ?_) (fun c101 => ?_)
                  · have h := sf_iff c101 h
                    refine sf_iconst (v := 1) X dX7_isClear_130 sf_ic_1 rfl ?_
                    refine sf_goto (tgt := 135) X dX7_isClear_131 rfl ?_
                    refine sf_istore (i := 7) (lv' := [(7, .int (1 : Int32)), (6, .int y100), (5, .int y92), (10, .int r76), (9, .int y72), (0, .ref (q 0)), (1, .int u0), (2, .int u1), (3, .int u2), (4, .int u3), (8, .int u7)]) X dX7_isClear_135 (by decide) rfl rfl ?_
                    refine sf_iinc (i := 8) (j := 10) (d := 1) (lv' := fun y102 => [(8, .int y102), (7, .int (1 : Int32)), (6, .int y100), (5, .int y92), (10, .int r76), (9, .int y72), (0, .ref (q 0)), (1, .int u0), (2, .int u1), (3, .int u2), (4, .int u3)]) X dX7_isClear_137 rfl sf_ic_1 (by decide) (fun _ => rfl) rfl (fun y102 hy102 => ?_)
                    have h := h y102 hy102
                    refine sf_goto (tgt := 12) X dX7_isClear_140 rfl ?_
                    refine sf_loc (lv' := [(0, .ref (q 0)), (1, .int u0), (2, .int u1), (3, .int u2), (4, .int u3), (5, .int y92), (6, .int y100), (7, .int (1 : Int32)), (8, .int y102)]) [6, 7, 8, 9, 10, 3, 2, 1, 0] rfl ?_
                    exact h
                  · have h := sf_ift c101 h
                    refine sf_iload (i := 10) (j := 2) X dX7_isClear_125 rfl rfl ?_
                    refine sf_if_ne (tgt := 134) X dX7_isClear_127 rfl rfl (fun c103 => ?_) (fun c103 => ?_)
                    · have h := sf_iff c103 h
                      refine sf_iconst (v := 0) X dX7_isClear_134 sf_ic_0 rfl ?_
                      refine sf_istore (i := 7) (lv' := [(7, .int (0 : Int32)), (6, .int y100), (5, .int y92), (10, .int r76), (9, .int y72), (0, .ref (q 0)), (1, .int u0), (2, .int u1), (3, .int u2), (4, .int u3), (8, .int u7)]) X dX7_isClear_135 (by decide) rfl rfl ?_
                      refine sf_iinc (i := 8) (j := 10) (d := 1) (lv' := fun y104 => [(8, .int y104), (7, .int (0 : Int32)), (6, .int y100), (5, .int y92), (10, .int r76), (9, .int y72), (0, .ref (q 0)), (1, .int u0), (2, .int u1), (3, .int u2), (4, .int u3)]) X dX7_isClear_137 rfl sf_ic_1 (by decide) (fun _ => rfl) rfl (fun y104 hy104 => ?_)
                      have h := h y104 hy104
                      refine sf_goto (tgt := 12) X dX7_isClear_140 rfl ?_
                      refine sf_loc (lv' := [(0, .ref (q 0)), (1, .int u0), (2, .int u1), (3, .int u2), (4, .int u3), (5, .int y92), (6, .int y100), (7, .int (0 : Int32)), (8, .int y104)]) [6, 7, 8, 9, 10, 3, 2, 1, 0] rfl ?_
                      exact h
                    · have h := sf_ift c103 h
                      refine sf_iconst (v := 1) X dX7_isClear_130 sf_ic_1 rfl ?_
                      refine sf_goto (tgt := 135) X dX7_isClear_131 rfl ?_
                      refine sf_istore (i := 7) (lv' := [(7, .int (1 : Int32)), (6, .int y100), (5, .int y92), (10, .int r76), (9, .int y72), (0, .ref (q 0)), (1, .int u0), (2, .int u1), (3, .int u2), (4, .int u3), (8, .int u7)]) X dX7_isClear_135 (by decide) rfl rfl ?_
                      refine sf_iinc (i := 8) (j := 10) (d := 1) (lv' := fun y105 => [(8, .int y105), (7, .int (1 : Int32)), (6, .int y100), (5, .int y92), (10, .int r76), (9, .int y72), (0, .ref (q 0)), (1, .int u0), (2, .int u1), (3, .int u2), (4, .int u3)]) X dX7_isClear_137 rfl sf_ic_1 (by decide) (fun _ => rfl) rfl (fun y105 hy105 => ?_)
                      have h := h y105 hy105
                      refine sf_goto (tgt := 12) X dX7_isClear_140 rfl ?_
                      refine sf_loc (lv' := [(0, .ref (q 0)), (1, .int u0), (2, .int u1), (3, .int u2), (4, .int u3), (5, .int y92), (6, .int y100), (7, .int (1 : Int32)), (8, .int y105)]) [6, 7, 8, 9, 10, 3, 2, 1, 0] rfl ?_
                      exact h
            · have h := sf_ift c73 h
              refine sf_iconst (v := 2) X dX7_isClear_74 sf_ic_2 rfl ?_
              refine sf_goto (tgt := 86) X dX7_isClear_75 rfl ?_
              refine sf_istore (i := 10) (lv' := [(10, .int (2 : Int32)), (9, .int y72), (0, .ref (q 0)), (1, .int u0), (2, .int u1), (3, .int u2), (4, .int u3), (5, .int u4), (6, .int u5), (7, .int u6), (8, .int u7)]) X dX7_isClear_86 (by decide) rfl rfl ?_
              refine sf_iload (i := 5) (j := 7) X dX7_isClear_88 rfl rfl ?_
              refine sf_iload (i := 10) (j := 0) X dX7_isClear_90 rfl rfl ?_
              refine sf_iconst (v := 1) X dX7_isClear_92 sf_ic_1 rfl ?_
              refine sf_icmp_ne (tgt := 100) X dX7_isClear_93 rfl rfl (fun c106 => ?_) (fun c106 => ?_)
              · have h := sf_iff c106 h
                refine sf_iconst (v := 0) X dX7_isClear_100 sf_ic_0 rfl ?_
                refine sf_iadd X dX7_isClear_101 rfl ?_
                refine sf_top (fun y107 hy107 => ?_)
                have h := h y107 hy107
                refine sf_istore (i := 5) (lv' := [(5, .int y107), (10, .int (2 : Int32)), (9, .int y72), (0, .ref (q 0)), (1, .int u0), (2, .int u1), (3, .int u2), (4, .int u3), (6, .int u5), (7, .int u6), (8, .int u7)]) X dX7_isClear_102 (by decide) rfl rfl ?_
                refine sf_iload (i := 6) (j := 8) X dX7_isClear_104 rfl rfl ?_
                refine sf_iload (i := 10) (j := 1) X dX7_isClear_106 rfl rfl ?_
                refine sf_iconst (v := (-1)) X dX7_isClear_108 sf_ic_m1 rfl ?_
                refine sf_icmp_ne (tgt := 116) X dX7_isClear_109 rfl rfl (fun c108 => ?_) (fun c108 => ?_)
                · have h := sf_iff c108 h
                  refine sf_iconst (v := 0) X dX7_isClear_116 sf_ic_0 rfl ?_
                  refine sf_iadd X dX7_isClear_117 rfl ?_
                  refine sf_top (fun y109 hy109 => ?_)
                  have h := h y109 hy109
                  refine sf_istore (i := 6) (lv' := [(6, .int y109), (5, .int y107), (10, .int (2 : Int32)), (9, .int y72), (0, .ref (q 0)), (1, .int u0), (2, .int u1), (3, .int u2), (4, .int u3), (7, .int u6), (8, .int u7)]) X dX7_isClear_118 (by decide) rfl rfl ?_
                  refine sf_iload (i := 7) (j := 9) X dX7_isClear_120 rfl rfl ?_
                  refine sf_if_ne (tgt := 130) X dX7_isClear_122 rfl rfl (fun c110 => ?_) (fun c110 => ?_)
                  · have h := sf_iff c110 h
                    refine sf_iconst (v := 1) X dX7_isClear_130 sf_ic_1 rfl ?_
                    refine sf_goto (tgt := 135) X dX7_isClear_131 rfl ?_
                    refine sf_istore (i := 7) (lv' := [(7, .int (1 : Int32)), (6, .int y109), (5, .int y107), (10, .int (2 : Int32)), (9, .int y72), (0, .ref (q 0)), (1, .int u0), (2, .int u1), (3, .int u2), (4, .int u3), (8, .int u7)]) X dX7_isClear_135 (by decide) rfl rfl ?_
                    refine sf_iinc (i := 8) (j := 10) (d := 1) (lv' := fun y111 => [(8, .int y111), (7, .int (1 : Int32)), (6, .int y109), (5, .int y107), (10, .int (2 : Int32)), (9, .int y72), (0, .ref (q 0)), (1, .int u0), (2, .int u1), (3, .int u2), (4, .int u3)]) X dX7_isClear_137 rfl sf_ic_1 (by decide) (fun _ => rfl) rfl (fun y111 hy111 => ?_)
                    have h := h y111 hy111
                    refine sf_goto (tgt := 12) X dX7_isClear_140 rfl ?_
                    refine sf_loc (lv' := [(0, .ref (q 0)), (1, .int u0), (2, .int u1), (3, .int u2), (4, .int u3), (5, .int y107), (6, .int y109), (7, .int (1 : Int32)), (8, .int y111)]) [6, 7, 8, 9, 10, 3, 2, 1, 0] rfl ?_
                    exact h
                  · have h := sf_ift c110 h
                    refine sf_iload (i := 10) (j := 2) X dX7_isClear_125 rfl rfl ?_
                    refine sf_if_ne (tgt := 134) X dX7_isClear_127 rfl rfl (fun c112 => ?_) (fun c112 => ?_)
                    · have h := sf_iff c112 h
                      refine sf_iconst (v := 0) X dX7_isClear_134 sf_ic_0 rfl ?_
                      refine sf_istore (i := 7) (lv' := [(7, .int (0 : Int32)), (6, .int y109), (5, .int y107), (10, .int (2 : Int32)), (9, .int y72), (0, .ref (q 0)), (1, .int u0), (2, .int u1), (3, .int u2), (4, .int u3), (8, .int u7)]) X dX7_isClear_135 (by decide) rfl rfl ?_
                      refine sf_iinc (i := 8) (j := 10) (d := 1) (lv' := fun y113 => [(8, .int y113), (7, .int (0 : Int32)), (6, .int y109), (5, .int y107), (10, .int (2 : Int32)), (9, .int y72), (0, .ref (q 0)), (1, .int u0), (2, .int u1), (3, .int u2), (4, .int u3)]) X dX7_isClear_137 rfl sf_ic_1 (by decide) (fun _ => rfl) rfl (fun y113 hy113 => ?_)
                      have h := h y113 hy113
                      refine sf_goto (tgt := 12) X dX7_isClear_140 rfl ?_
                      refine sf_loc (lv' := [(0, .ref (q 0)), (1, .int u0), (2, .int u1), (3, .int u2), (4, .int u3), (5, .int y107), (6, .int y109), (7, .int (0 : Int32)), (8, .int y113)]) [6, 7, 8, 9, 10, 3, 2, 1, 0] rfl ?_
                      exact h
                    · have h := sf_ift c112 h
                      refine sf_iconst (v := 1) X dX7_isClear_130 sf_ic_1 rfl ?_
                      refine sf_goto (tgt := 135) X dX7_isClear_131 rfl ?_
                      refine sf_istore (i := 7) (lv' := [(7, .int (1 : Int32)), (6, .int y109), (5, .int y107), (10, .int (2 : Int32)), (9, .int y72), (0, .ref (q 0)), (1, .int u0), (2, .int u1), (3, .int u2), (4, .int u3), (8, .int u7)]) X dX7_isClear_135 (by decide) rfl rfl ?_
                      refine sf_iinc (i := 8) (j := 10) (d := 1) (lv' := fun y114 => [(8, .int y114), (7, .int (1 : Int32)), (6, .int y109), (5, .int y107), (10, .int (2 : Int32)), (9, .int y72), (0, .ref (q 0)), (1, .int u0), (2, .int u1), (3, .int u2), (4, .int u3)]) X dX7_isClear_137 rfl sf_ic_1 (by decide) (fun _ => rfl) rfl (fun y114 hy114 => ?_)
                      have h := h y114 hy114
                      refine sf_goto (tgt := 12) X dX7_isClear_140 rfl ?_
                      refine sf_loc (lv' := [(0, .ref (q 0)), (1, .int u0), (2, .int u1), (3, .int u2), (4, .int u3), (5, .int y107), (6, .int y109), (7, .int (1 : Int32)), (8, .int y114)]) [6, 7, 8, 9, 10, 3, 2, 1, 0] rfl ?_
                      exact h
                · have h := sf_ift c108 h
                  refine sf_iconst (v := 1) X dX7_isClear_112 sf_ic_1 rfl ?_
                  refine sf_goto (tgt := 117) X dX7_isClear_113 rfl ?_
                  refine sf_iadd X dX7_isClear_117 rfl ?_
                  refine sf_top (fun y115 hy115 => ?_)
                  have h := h y115 hy115
                  refine sf_istore (i := 6) (lv' := [(6, .int y115), (5, .int y107), (10, .int (2 : Int32)), (9, .int y72), (0, .ref (q 0)), (1, .int u0), (2, .int u1), (3, .int u2), (4, .int u3), (7, .int u6), (8, .int u7)]) X dX7_isClear_118 (by decide) rfl rfl ?_
                  refine sf_iload (i := 7) (j := 9) X dX7_isClear_120 rfl rfl ?_
                  refine sf_if_ne (tgt := 130) X dX7_isClear_122 rfl rfl (fun c116 => ?_) (fun c116 => ?_)
                  · have h := sf_iff c116 h
                    refine sf_iconst (v := 1) X dX7_isClear_130 sf_ic_1 rfl ?_
                    refine sf_goto (tgt := 135) X dX7_isClear_131 rfl ?_
                    refine sf_istore (i := 7) (lv' := [(7, .int (1 : Int32)), (6, .int y115), (5, .int y107), (10, .int (2 : Int32)), (9, .int y72), (0, .ref (q 0)), (1, .int u0), (2, .int u1), (3, .int u2), (4, .int u3), (8, .int u7)]) X dX7_isClear_135 (by decide) rfl rfl ?_
                    refine sf_iinc (i := 8) (j := 10) (d := 1) (lv' := fun y117 => [(8, .int y117), (7, .int (1 : Int32)), (6, .int y115), (5, .int y107), (10, .int (2 : Int32)), (9, .int y72), (0, .ref (q 0)), (1, .int u0), (2, .int u1), (3, .int u2), (4, .int u3)]) X dX7_isClear_137 rfl sf_ic_1 (by decide) (fun _ => rfl) rfl (fun y117 hy117 => ?_)
                    have h := h y117 hy117
                    refine sf_goto (tgt := 12) X dX7_isClear_140 rfl ?_
                    refine sf_loc (lv' := [(0, .ref (q 0)), (1, .int u0), (2, .int u1), (3, .int u2), (4, .int u3), (5, .int y107), (6, .int y115), (7, .int (1 : Int32)), (8, .int y117)]) [6, 7, 8, 9, 10, 3, 2, 1, 0] rfl ?_
                    exact h
                  · have h := sf_ift c116 h
                    refine sf_iload (i := 10) (j := 2) X dX7_isClear_125 rfl rfl ?_
                    refine sf_if_ne (tgt := 134) X dX7_isClear_127 rfl rfl (fun c118 => ?_) (fun c118 => ?_)
                    · have h := sf_iff c118 h
                      refine sf_iconst (v := 0) X dX7_isClear_134 sf_ic_0 rfl ?_
                      refine sf_istore (i := 7) (lv' := [(7, .int (0 : Int32)), (6, .int y115), (5, .int y107), (10, .int (2 : Int32)), (9, .int y72), (0, .ref (q 0)), (1, .int u0), (2, .int u1), (3, .int u2), (4, .int u3), (8, .int u7)]) X dX7_isClear_135 (by decide) rfl rfl ?_
                      refine sf_iinc (i := 8) (j := 10) (d := 1) (lv' := fun y119 => [(8, .int y119), (7, .int (0 : Int32)), (6, .int y115), (5, .int y107), (10, .int (2 : Int32)), (9, .int y72), (0, .ref (q 0)), (1, .int u0), (2, .int u1), (3, .int u2), (4, .int u3)]) X dX7_isClear_137 rfl sf_ic_1 (by decide) (fun _ => rfl) rfl (fun y119 hy119 => ?_)
                      have h := h y119 hy119
                      refine sf_goto (tgt := 12) X dX7_isClear_140 rfl ?_
                      refine sf_loc (lv' := [(0, .ref (q 0)), (1, .int u0), (2, .int u1), (3, .int u2), (4, .int u3), (5, .int y107), (6, .int y115), (7, .int (0 : Int32)), (8, .int y119)]) [6, 7, 8, 9, 10, 3, 2, 1, 0] rfl ?_
                      exact h
                    · have h := sf_ift c118 h
                      refine sf_iconst (v := 1) X dX7_isClear_130 sf_ic_1 rfl ?_
                      refine sf_goto (tgt := 135) X dX7_isClear_131 rfl ?_
                      refine sf_istore (i := 7) (lv' := [(7, .int (1 : Int32)), (6, .int y115), (5, .int y107), (10, .int (2 : Int32)), (9, .int y72), (0, .ref (q 0)), (1, .int u0), (2, .int u1), (3, .int u2), (4, .int u3), (8, .int u7)]) X dX7_isClear_135 (by decide) rfl rfl ?_
                      refine sf_iinc (i := 8) (j := 10) (d := 1) (lv' := fun y120 => [(8, .int y120), (7, .int (1 : Int32)), (6, .int y115), (5, .int y107), (10, .int (2 : Int32)), (9, .int y72), (0, .ref (q 0)), (1, .int u0), (2, .int u1), (3, .int u2), (4, .int u3)]) X dX7_isClear_137 rfl sf_ic_1 (by decide) (fun _ => rfl) rfl (fun y120 hy120 => ?_)
                      have h := h y120 hy120
                      refine sf_goto (tgt := 12) X dX7_isClear_140 rfl ?_
                      refine sf_loc (lv' := [(0, .ref (q 0)), (1, .int u0), (2, .int u1), (3, .int u2), (4, .int u3), (5, .int y107), (6, .int y115), (7, .int (1 : Int32)), (8, .int y120)]) [6, 7, 8, 9, 10, 3, 2, 1, 0] rfl ?_
                      exact h
              · have h := sf_ift c106 h
                refine sf_iconst (v := 1) X dX7_isClear_96 sf_ic_1 rfl ?_
                refine sf_goto (tgt := 101) X dX7_isClear_97 rfl ?_
                refine sf_iadd X dX7_isClear_101 rfl ?_
                refine sf_top (fun y121 hy121 => ?_)
                have h := h y121 hy121
                refine sf_istore (i := 5) (lv' := [(5, .int y121), (10, .int (2 : Int32)), (9, .int y72), (0, .ref (q 0)), (1, .int u0), (2, .int u1), (3, .int u2), (4, .int u3), (6, .int u5), (7, .int u6), (8, .int u7)]) X dX7_isClear_102 (by decide) rfl rfl ?_
                refine sf_iload (i := 6) (j := 8) X dX7_isClear_104 rfl rfl ?_
                refine sf_iload (i := 10) (j := 1) X dX7_isClear_106 rfl rfl ?_
                refine sf_iconst (v := (-1)) X dX7_isClear_108 sf_ic_m1 rfl ?_
                refine sf_icmp_ne (tgt := 116) X dX7_isClear_109 rfl rfl (fun c122 => ?_) (fun c122 => ?_)
                · have h := sf_iff c122 h
                  refine sf_iconst (v := 0) X dX7_isClear_116 sf_ic_0 rfl ?_
                  refine sf_iadd X dX7_isClear_117 rfl ?_
                  refine sf_top (fun y123 hy123 => ?_)
                  have h := h y123 hy123
                  refine sf_istore (i := 6) (lv' := [(6, .int y123), (5, .int y121), (10, .int (2 : Int32)), (9, .int y72), (0, .ref (q 0)), (1, .int u0), (2, .int u1), (3, .int u2), (4, .int u3), (7, .int u6), (8, .int u7)]) X dX7_isClear_118 (by decide) rfl rfl ?_
                  refine sf_iload (i := 7) (j := 9) X dX7_isClear_120 rfl rfl ?_
                  refine sf_if_ne (tgt := 130) X dX7_isClear_122 rfl rfl (fun c124 => ?_) (fun c124 => ?_)
                  · have h := sf_iff c124 h
                    refine sf_iconst (v := 1) X dX7_isClear_130 sf_ic_1 rfl ?_
                    refine sf_goto (tgt := 135) X dX7_isClear_131 rfl ?_
                    refine sf_istore (i := 7) (lv' := [(7, .int (1 : Int32)), (6, .int y123), (5, .int y121), (10, .int (2 : Int32)), (9, .int y72), (0, .ref (q 0)), (1, .int u0), (2, .int u1), (3, .int u2), (4, .int u3), (8, .int u7)]) X dX7_isClear_135 (by decide) rfl rfl ?_
                    refine sf_iinc (i := 8) (j := 10) (d := 1) (lv' := fun y125 => [(8, .int y125), (7, .int (1 : Int32)), (6, .int y123), (5, .int y121), (10, .int (2 : Int32)), (9, .int y72), (0, .ref (q 0)), (1, .int u0), (2, .int u1), (3, .int u2), (4, .int u3)]) X dX7_isClear_137 rfl sf_ic_1 (by decide) (fun _ => rfl) rfl (fun y125 hy125 => ?_)
                    have h := h y125 hy125
                    refine sf_goto (tgt := 12) X dX7_isClear_140 rfl ?_
                    refine sf_loc (lv' := [(0, .ref (q 0)), (1, .int u0), (2, .int u1), (3, .int u2), (4, .int u3), (5, .int y121), (6, .int y123), (7, .int (1 : Int32)), (8, .int y125)]) [6, 7, 8, 9, 10, 3, 2, 1, 0] rfl ?_
                    exact h
                  · have h := sf_ift c124 h
                    refine sf_iload (i := 10) (j := 2) X dX7_isClear_125 rfl rfl ?_
                    refine sf_if_ne (tgt := 134) X dX7_isClear_127 rfl rfl (fun c126 => ?_) (fun c126 => ?_)
                    · have h := sf_iff c126 h
                      refine sf_iconst (v := 0) X dX7_isClear_134 sf_ic_0 rfl ?_
                      refine sf_istore (i := 7) (lv' := [(7, .int (0 : Int32)), (6, .int y123), (5, .int y121), (10, .int (2 : Int32)), (9, .int y72), (0, .ref (q 0)), (1, .int u0), (2, .int u1), (3, .int u2), (4, .int u3), (8, .int u7)]) X dX7_isClear_135 (by decide) rfl rfl ?_
                      refine sf_iinc (i := 8) (j := 10) (d := 1) (lv' := fun y127 => [(8, .int y127), (7, .int (0 : Int32)), (6, .int y123), (5, .int y121), (10, .int (2 : Int32)), (9, .int y72), (0, .ref (q 0)), (1, .int u0), (2, .int u1), (3, .int u2), (4, .int u3)]) X dX7_isClear_137 rfl sf_ic_1 (by decide) (fun _ => rfl) rfl (fun y127 hy127 => ?_)
                      have h := h y127 hy127
                      refine sf_goto (tgt := 12) X dX7_isClear_140 rfl ?_
                      refine sf_loc (lv' := [(0, .ref (q 0)), (1, .int u0), (2, .int u1), (3, .int u2), (4, .int u3), (5, .int y121), (6, .int y123), (7, .int (0 : Int32)), (8, .int y127)]) [6, 7, 8, 9, 10, 3, 2, 1, 0] rfl ?_
                      exact h
                    · have h := sf_ift c126 h
                      refine sf_iconst (v := 1) X dX7_isClear_130 sf_ic_1 rfl ?_
                      refine sf_goto (tgt := 135) X dX7_isClear_131 rfl ?_
                      refine sf_istore (i := 7) (lv' := [(7, .int (1 : Int32)), (6, .int y123), (5, .int y121), (10, .int (2 : Int32)), (9, .int y72), (0, .ref (q 0)), (1, .int u0), (2, .int u1), (3, .int u2), (4, .int u3), (8, .int u7)]) X dX7_isClear_135 (by decide) rfl rfl ?_
                      refine sf_iinc (i := 8) (j := 10) (d := 1) (lv' := fun y128 => [(8, .int y128), (7, .int (1 : Int32)), (6, .int y123), (5, .int y121), (10, .int (2 : Int32)), (9, .int y72), (0, .ref (q 0)), (1, .int u0), (2, .int u1), (3, .int u2), (4, .int u3)]) X dX7_isClear_137 rfl sf_ic_1 (by decide) (fun _ => rfl) rfl (fun y128 hy128 => ?_)
                      have h := h y128 hy128
                      refine sf_goto (tgt := 12) X dX7_isClear_140 rfl ?_
                      refine sf_loc (lv' := [(0, .ref (q 0)), (1, .int u0), (2, .int u1), (3, .int u2), (4, .int u3), (5, .int y121), (6, .int y123), (7, .int (1 : Int32)), (8, .int y128)]) [6, 7, 8, 9, 10, 3, 2, 1, 0] rfl ?_
                      exact h
                · have h := sf_ift c122 h
                  refine sf_iconst (v := 1) X dX7_isClear_112 sf_ic_1 rfl ?_
                  refine sf_goto (tgt := 117) X dX7_isClear_113 rfl ?_
                  refine sf_iadd X dX7_isClear_117 rfl ?_
                  refine sf_top (fun y129 hy129 => ?_)
                  have h := h y129 hy129
                  refine sf_istore (i := 6) (lv' := [(6, .int y129), (5, .int y121), (10, .int (2 : Int32)), (9, .int y72), (0, .ref (q 0)), (1, .int u0), (2, .int u1), (3, .int u2), (4, .int u3), (7, .int u6), (8, .int u7)]) X dX7_isClear_118 (by decide) rfl rfl ?_
                  refine sf_iload (i := 7) (j := 9) X dX7_isClear_120 rfl rfl ?_
                  refine sf_if_ne (tgt := 130) X dX7_isClear_122 rfl rfl (fun c130 => ?_) (fun c130 => ?_)
                  · have h := sf_iff c130 h
                    refine sf_iconst (v := 1) X dX7_isClear_130 sf_ic_1 rfl ?_
                    refine sf_goto (tgt := 135) X dX7_isClear_131 rfl ?_
                    refine sf_istore (i := 7) (lv' := [(7, .int (1 : Int32)), (6, .int y129), (5, .int y121), (10, .int (2 : Int32)), (9, .int y72), (0, .ref (q 0)), (1, .int u0), (2, .int u1), (3, .int u2), (4, .int u3), (8, .int u7)]) X dX7_isClear_135 (by decide) rfl rfl ?_
                    refine sf_iinc (i := 8) (j := 10) (d := 1) (lv' := fun y131 => [(8, .int y131), (7, .int (1 : Int32)), (6, .int y129), (5, .int y121), (10, .int (2 : Int32)), (9, .int y72), (0, .ref (q 0)), (1, .int u0), (2, .int u1), (3, .int u2), (4, .int u3)]) X dX7_isClear_137 rfl sf_ic_1 (by decide) (fun _ => rfl) rfl (fun y131 hy131 => ?_)
                    have h := h y131 hy131
                    refine sf_goto (tgt := 12) X dX7_isClear_140 rfl ?_
                    refine sf_loc (lv' := [(0, .ref (q 0)), (1, .int u0), (2, .int u1), (3, .int u2), (4, .int u3), (5, .int y121), (6, .int y129), (7, .int (1 : Int32)), (8, .int y131)]) [6, 7, 8, 9, 10, 3, 2, 1, 0] rfl ?_
                    exact h
                  · have h := sf_ift c130 h
                    refine sf_iload (i := 10) (j := 2) X dX7_isClear_125 rfl rfl ?_
                    refine sf_if_ne (tgt := 134) X dX7_isClear_127 rfl rfl (fun c132 => ?_) (fun c132 => ?_)
                    · have h := sf_iff c132 h
                      refine sf_iconst (v := 0) X dX7_isClear_134 sf_ic_0 rfl ?_
                      refine sf_istore (i := 7) (lv' := [(7, .int (0 : Int32)), (6, .int y129), (5, .int y121), (10, .int (2 : Int32)), (9, .int y72), (0, .ref (q 0)), (1, .int u0), (2, .int u1), (3, .int u2), (4, .int u3), (8, .int u7)]) X dX7_isClear_135 (by decide) rfl rfl ?_
                      refine sf_iinc (i := 8) (j := 10) (d := 1) (lv' := fun y133 => [(8, .int y133), (7, .int (0 : Int32)), (6, .int y129), (5, .int y121), (10, .int (2 : Int32)), (9, .int y72), (0, .ref (q 0)), (1, .int u0), (2, .int u1), (3, .int u2), (4, .int u3)]) X dX7_isClear_137 rfl sf_ic_1 (by decide) (fun _ => rfl) rfl (fun y133 hy133 => ?_)
                      have h := h y133 hy133
                      refine sf_goto (tgt := 12) X dX7_isClear_140 rfl ?_
                      refine sf_loc (lv' := [(0, .ref (q 0)), (1, .int u0), (2, .int u1), (3, .int u2), (4, .int u3), (5, .int y121), (6, .int y129), (7, .int (0 : Int32)), (8, .int y133)]) [6, 7, 8, 9, 10, 3, 2, 1, 0] rfl ?_
                      exact h
                    · have h := sf_ift c132 h
                      refine sf_iconst (v := 1) X dX7_isClear_130 sf_ic_1 rfl ?_
                      refine sf_goto (tgt := 135) X dX7_isClear_131 rfl ?_
                      refine sf_istore (i := 7) (lv' := [(7, .int (1 : Int32)), (6, .int y129), (5, .int y121), (10, .int (2 : Int32)), (9, .int y72), (0, .ref (q 0)), (1, .int u0), (2, .int u1), (3, .int u2), (4, .int u3), (8, .int u7)]) X dX7_isClear_135 (by decide) rfl rfl ?_
                      refine sf_iinc (i := 8) (j := 10) (d := 1) (lv' := fun y134 => [(8, .int y134), (7, .int (1 : Int32)), (6, .int y129), (5, .int y121), (10, .int (2 : Int32)), (9, .int y72), (0, .ref (q 0)), (1, .int u0), (2, .int u1), (3, .int u2), (4, .int u3)]) X dX7_isClear_137 rfl sf_ic_1 (by decide) (fun _ => rfl) rfl (fun y134 hy134 => ?_)
                      have h := h y134 hy134
                      refine sf_goto (tgt := 12) X dX7_isClear_140 rfl ?_
                      refine sf_loc (lv' := [(0, .ref (q 0)), (1, .int u0), (2, .int u1), (3, .int u2), (4, .int u3), (5, .int y121), (6, .int y129), (7, .int (1 : Int32)), (8, .int y134)]) [6, 7, 8, 9, 10, 3, 2, 1, 0] rfl ?_
                      exact h
        · have h := sf_ift c6 h
          refine sf_aload_n (i := 0) (j := 0) X dX7_isClear_32 rfl rfl rfl ?_
          refine sf_getR (C := RX7) (T := TX7) (N := 23) (ci := 7) (j := 6) (k' := 5) X (fun w h => sf_memc (inX7 w h)) rfl rfl (by decide) (X.1.2.2.2.2 _ (sf_memc tw_637)) (fun _ h9 => h9) rfl dX7_isClear_33 rfl ?_
          refine sf_iload (i := 8) (j := 8) X dX7_isClear_36 rfl rfl ?_
          obtain ⟨b135, h⟩ := h
          refine sf_iald X rfl b135 dX7_isClear_38 rfl ?_
          refine sf_goto (tgt := 65) X dX7_isClear_39 rfl ?_
          refine sf_top (fun y136 hy136 => ?_)
          have h := h y136 hy136
          refine sf_istore (i := 9) (lv' := [(9, .int y136), (0, .ref (q 0)), (1, .int u0), (2, .int u1), (3, .int u2), (4, .int u3), (5, .int u4), (6, .int u5), (7, .int u6), (8, .int u7)]) X dX7_isClear_65 (by decide) rfl rfl ?_
          refine sf_iload (i := 9) (j := 0) X dX7_isClear_67 rfl rfl ?_
          refine sf_iload (i := 4) (j := 5) X dX7_isClear_69 rfl rfl ?_
          refine sf_icmp_ne (tgt := 78) X dX7_isClear_71 rfl rfl (fun c137 => ?_) (fun c137 => ?_)
          · have h := sf_iff c137 h
            refine sf_aload_n (i := 0) (j := 1) X dX7_isClear_78 rfl rfl rfl ?_
            refine sf_iload_n (i := 1) (j := 2) X dX7_isClear_79 rfl rfl rfl ?_
            refine sf_iload_n (i := 2) (j := 3) X dX7_isClear_80 rfl rfl rfl ?_
            refine sf_iload (i := 9) (j := 0) X dX7_isClear_81 rfl rfl ?_
            obtain ⟨r140, τ139, hR138, h⟩ := h
            refine sf_callVi (As := [.int u0, .int u1, .int y136]) (rest := []) (cv := (RX7, TX7, 23)) X rfl rfl (c_X7_side hq hR138) (cwV 3 X.1.2.2.2.2 (sf_gV tw_794 tw_796 tw_27 tw_48 tw_797) rfl rfl rfl ⟨rfl, hd_X7_side⟩ ⟨Nat.le_of_ble_eq_true rfl, Nat.le_of_ble_eq_true rfl⟩) rfl rfl (Nat.le_of_ble_eq_true rfl) dX7_isClear_83 rfl ?_
            refine sf_istore (i := 10) (lv' := [(10, .int r140), (9, .int y136), (0, .ref (q 0)), (1, .int u0), (2, .int u1), (3, .int u2), (4, .int u3), (5, .int u4), (6, .int u5), (7, .int u6), (8, .int u7)]) X dX7_isClear_86 (by decide) rfl rfl ?_
            refine sf_iload (i := 5) (j := 7) X dX7_isClear_88 rfl rfl ?_
            refine sf_iload (i := 10) (j := 0) X dX7_isClear_90 rfl rfl ?_
            refine sf_iconst (v := 1) X dX7_isClear_92 sf_ic_1 rfl ?_
            refine sf_icmp_ne (tgt := 100) X dX7_isClear_93 rfl rfl (fun c141 => ?_) (fun c141 => ?_)
            · have h := sf_iff c141 h
              refine sf_iconst (v := 0) X dX7_isClear_100 sf_ic_0 rfl ?_
              refine sf_iadd X dX7_isClear_101 rfl ?_
              refine sf_top (fun y142 hy142 => ?_)
              have h := h y142 hy142
              refine sf_istore (i := 5) (lv' := [(5, .int y142), (10, .int r140), (9, .int y136), (0, .ref (q 0)), (1, .int u0), (2, .int u1), (3, .int u2), (4, .int u3), (6, .int u5), (7, .int u6), (8, .int u7)]) X dX7_isClear_102 (by decide) rfl rfl ?_
              refine sf_iload (i := 6) (j := 8) X dX7_isClear_104 rfl rfl ?_
              refine sf_iload (i := 10) (j := 1) X dX7_isClear_106 rfl rfl ?_
              refine sf_iconst (v := (-1)) X dX7_isClear_108 sf_ic_m1 rfl ?_
              refine sf_icmp_ne (tgt := 116) X dX7_isClear_109 rfl rfl (fun c143 => ?_) (fun c143 => ?_)
              · have h := sf_iff c143 h
                refine sf_iconst (v := 0) X dX7_isClear_116 sf_ic_0 rfl ?_
                refine sf_iadd X dX7_isClear_117 rfl ?_
                refine sf_top (fun y144 hy144 => ?_)
                have h := h y144 hy144
                refine sf_istore (i := 6) (lv' := [(6, .int y144), (5, .int y142), (10, .int r140), (9, .int y136), (0, .ref (q 0)), (1, .int u0), (2, .int u1), (3, .int u2), (4, .int u3), (7, .int u6), (8, .int u7)]) X dX7_isClear_118 (by decide) rfl rfl ?_
                refine sf_iload (i := 7) (j := 9) X dX7_isClear_120 rfl rfl ?_
                refine sf_if_ne (tgt := 130) X dX7_isClear_122 rfl rfl (fun c145 => ?_) (fun c145 => ?_)
                · have h := sf_iff c145 h
                  refine sf_iconst (v := 1) X dX7_isClear_130 sf_ic_1 rfl ?_
                  refine sf_goto (tgt := 135) X dX7_isClear_131 rfl ?_
                  refine sf_istore (i := 7) (lv' := [(7, .int (1 : Int32)), (6, .int y144), (5, .int y142), (10, .int r140), (9, .int y136), (0, .ref (q 0)), (1, .int u0), (2, .int u1), (3, .int u2), (4, .int u3), (8, .int u7)]) X dX7_isClear_135 (by decide) rfl rfl ?_
                  refine sf_iinc (i := 8) (j := 10) (d := 1) (lv' := fun y146 => [(8, .int y146), (7, .int (1 : Int32)), (6, .int y144), (5, .int y142), (10, .int r140), (9, .int y136), (0, .ref (q 0)), (1, .int u0), (2, .int u1), (3, .int u2), (4, .int u3)]) X dX7_isClear_137 rfl sf_ic_1 (by decide) (fun _ => rfl) rfl (fun y146 hy146 => ?_)
                  have h := h y146 hy146
                  refine sf_goto (tgt := 12) X dX7_isClear_140 rfl ?_
                  refine sf_loc (lv' := [(0, .ref (q 0)), (1, .int u0), (2, .int u1), (3, .int u2), (4, .int u3), (5, .int y142), (6, .int y144), (7, .int (1 : Int32)), (8, .int y146)]) [6, 7, 8, 9, 10, 3, 2, 1, 0] rfl ?_
                  exact h
                · have h := sf_ift c145 h
                  refine sf_iload (i := 10) (j := 2) X dX7_isClear_125 rfl rfl ?_
                  refine sf_if_ne (tgt := 134) X dX7_isClear_127 rfl rfl (fun c147 => ?_) (fun c147 => ?_)
                  · have h := sf_iff c147 h
                    refine sf_iconst (v := 0) X dX7_isClear_134 sf_ic_0 rfl ?_
                    refine sf_istore (i := 7) (lv' := [(7, .int (0 : Int32)), (6, .int y144), (5, .int y142), (10, .int r140), (9, .int y136), (0, .ref (q 0)), (1, .int u0), (2, .int u1), (3, .int u2), (4, .int u3), (8, .int u7)]) X dX7_isClear_135 (by decide) rfl rfl ?_
                    refine sf_iinc (i := 8) (j := 10) (d := 1) (lv' := fun y148 => [(8, .int y148), (7, .int (0 : Int32)), (6, .int y144), (5, .int y142), (10, .int r140), (9, .int y136), (0, .ref (q 0)), (1, .int u0), (2, .int u1), (3, .int u2), (4, .int u3)]) X dX7_isClear_137 rfl sf_ic_1 (by decide) (fun _ => rfl) rfl (fun y148 hy148 => ?_)
                    have h := h y148 hy148
                    refine sf_goto (tgt := 12) X dX7_isClear_140 rfl ?_
                    refine sf_loc (lv' := [(0, .ref (q 0)), (1, .int u0), (2, .int u1), (3, .int u2), (4, .int u3), (5, .int y142), (6, .int y144), (7, .int (0 : Int32)), (8, .int y148)]) [6, 7, 8, 9, 10, 3, 2, 1, 0] rfl ?_
                    exact h
                  · have h := sf_ift c147 h
                    refine sf_iconst (v := 1) X dX7_isClear_130 sf_ic_1 rfl ?_
                    refine sf_goto (tgt := 135) X dX7_isClear_131 rfl ?_
                    refine sf_istore (i := 7) (lv' := [(7, .int (1 : Int32)), (6, .int y144), (5, .int y142), (10, .int r140), (9, .int y136), (0, .ref (q 0)), (1, .int u0), (2, .int u1), (3, .int u2), (4, .int u3), (8, .int u7)]) X dX7_isClear_135 (by decide) rfl rfl ?_
                    refine sf_iinc (i := 8) (j := 10) (d := 1) (lv' := fun y149 => [(8, .int y149), (7, .int (1 : Int32)), (6, .int y144), (5, .int y142), (10, .int r140), (9, .int y136), (0, .ref (q 0)), (1, .int u0), (2, .int u1), (3, .int u2), (4, .int u3)]) X dX7_isClear_137 rfl sf_ic_1 (by decide) (fun _ => rfl) rfl (fun y149 hy149 => ?_)
                    have h := h y149 hy149
                    refine sf_goto (tgt := 12) X dX7_isClear_140 rfl ?_
                    refine sf_loc (lv' := [(0, .ref (q 0)), (1, .int u0), (2, .int u1), (3, .int u2), (4, .int u3), (5, .int y142), (6, .int y144), (7, .int (1 : Int32)), (8, .int y149)]) [6, 7, 8, 9, 10, 3, 2, 1, 0] rfl ?_
                    exact h
              · have h := sf_ift c143 h
                refine sf_iconst (v := 1) X dX7_isClear_112 sf_ic_1 rfl ?_
                refine sf_goto (tgt := 117) X dX7_isClear_113 rfl ?_
                refine sf_iadd X dX7_isClear_117 rfl ?_
                refine sf_top (fun y150 hy150 => ?_)
                have h := h y150 hy150
                refine sf_istore (i := 6) (lv' := [(6, .int y150), (5, .int y142), (10, .int r140), (9, .int y136), (0, .ref (q 0)), (1, .int u0), (2, .int u1), (3, .int u2), (4, .int u3), (7, .int u6), (8, .int u7)]) X dX7_isClear_118 (by decide) rfl rfl ?_
                refine sf_iload (i := 7) (j := 9) X dX7_isClear_120 rfl rfl ?_
                refine sf_if_ne (tgt := 130) X dX7_isClear_122 rfl rfl (fun c151 => ?_) (fun c151 => ?_)
                · have h := sf_iff c151 h
                  refine sf_iconst (v := 1) X dX7_isClear_130 sf_ic_1 rfl ?_
                  refine sf_goto (tgt := 135) X dX7_isClear_131 rfl ?_
                  refine sf_istore (i := 7) (lv' := [(7, .int (1 : Int32)), (6, .int y150), (5, .int y142), (10, .int r140), (9, .int y136), (0, .ref (q 0)), (1, .int u0), (2, .int u1), (3, .int u2), (4, .int u3), (8, .int u7)]) X dX7_isClear_135 (by decide) rfl rfl ?_
                  refine sf_iinc (i := 8) (j := 10) (d := 1) (lv' := fun y152 => [(8, .int y152), (7, .int (1 : Int32)), (6, .int y150), (5, .int y142), (10, .int r140), (9, .int y136), (0, .ref (q 0)), (1, .int u0), (2, .int u1), (3, .int u2), (4, .int u3)]) X dX7_isClear_137 rfl sf_ic_1 (by decide) (fun _ => rfl) rfl (fun y152 hy152 => ?_)
                  have h := h y152 hy152
                  refine sf_goto (tgt := 12) X dX7_isClear_140 rfl ?_
                  refine sf_loc (lv' := [(0, .ref (q 0)), (1, .int u0), (2, .int u1), (3, .int u2), (4, .int u3), (5, .int y142), (6, .int y150), (7, .int (1 : Int32)), (8, .int y152)]) [6, 7, 8, 9, 10, 3, 2, 1, 0] rfl ?_
                  exact h
                · have h := sf_ift c151 h
                  refine sf_iload (i := 10) (j := 2) X dX7_isClear_125 rfl rfl ?_
                  refine sf_if_ne (tgt := 134) X dX7_isClear_127 rfl rfl (fun c153 => ?_) (fun c153 => ?_)
                  · have h := sf_iff c153 h
                    refine sf_iconst (v := 0) X dX7_isClear_134 sf_ic_0 rfl ?_
                    refine sf_istore (i := 7) (lv' := [(7, .int (0 : Int32)), (6, .int y150), (5, .int y142), (10, .int r140), (9, .int y136), (0, .ref (q 0)), (1, .int u0), (2, .int u1), (3, .int u2), (4, .int u3), (8, .int u7)]) X dX7_isClear_135 (by decide) rfl rfl ?_
                    refine sf_iinc (i := 8) (j := 10) (d := 1) (lv' := fun y154 => [(8, .int y154), (7, .int (0 : Int32)), (6, .int y150), (5, .int y142), (10, .int r140), (9, .int y136), (0, .ref (q 0)), (1, .int u0), (2, .int u1), (3, .int u2), (4, .int u3)]) X dX7_isClear_137 rfl sf_ic_1 (by decide) (fun _ => rfl) rfl (fun y154 hy154 => ?_)
                    have h := h y154 hy154
                    refine sf_goto (tgt := 12) X dX7_isClear_140 rfl ?_
                    refine sf_loc (lv' := [(0, .ref (q 0)), (1, .int u0), (2, .int u1), (3, .int u2), (4, .int u3), (5, .int y142), (6, .int y150), (7, .int (0 : Int32)), (8, .int y154)]) [6, 7, 8, 9, 10, 3, 2, 1, 0] rfl ?_
                    exact h
                  · have h := sf_ift c153 h
                    refine sf_iconst (v := 1) X dX7_isClear_130 sf_ic_1 rfl ?_
                    refine sf_goto (tgt := 135) X dX7_isClear_131 rfl ?_
                    refine sf_istore (i := 7) (lv' := [(7, .int (1 : Int32)), (6, .int y150), (5, .int y142), (10, .int r140), (9, .int y136), (0, .ref (q 0)), (1, .int u0), (2, .int u1), (3, .int u2), (4, .int u3), (8, .int u7)]) X dX7_isClear_135 (by decide) rfl rfl ?_
                    refine sf_iinc (i := 8) (j := 10) (d := 1) (lv' := fun y155 => [(8, .int y155), (7, .int (1 : Int32)), (6, .int y150), (5, .int y142), (10, .int r140), (9, .int y136), (0, .ref (q 0)), (1, .int u0), (2, .int u1), (3, .int u2), (4, .int u3)]) X dX7_isClear_137 rfl sf_ic_1 (by decide) (fun _ => rfl) rfl (fun y155 hy155 => ?_)
                    have h := h y155 hy155
                    refine sf_goto (tgt := 12) X dX7_isClear_140 rfl ?_
                    refine sf_loc (lv' := [(0, .ref (q 0)), (1, .int u0), (2, .int u1), (3, .int u2), (4, .int u3), (5, .int y142), (6, .int y150), (7, .int (1 : Int32)), (8, .int y155)]) [6, 7, 8, 9, 10, 3, 2, 1, 0] rfl ?_
                    exact h
            · have h := sf_ift c141 h
              refine sf_iconst (v := 1) X dX7_isClear_96 sf_ic_1 rfl ?_
              refine sf_goto (tgt := 101) X dX7_isClear_97 rfl ?_
              refine sf_iadd X dX7_isClear_101 rfl ?_
              refine sf_top (fun y156 hy156 => ?_)
              have h := h y156 hy156
              refine sf_istore (i := 5) (lv' := [(5, .int y156), (10, .int r140), (9, .int y136), (0, .ref (q 0)), (1, .int u0), (2, .int u1), (3, .int u2), (4, .int u3), (6, .int u5), (7, .int u6), (8, .int u7)]) X dX7_isClear_102 (by decide) rfl rfl ?_
              refine sf_iload (i := 6) (j := 8) X dX7_isClear_104 rfl rfl ?_
              refine sf_iload (i := 10) (j := 1) X dX7_isClear_106 rfl rfl ?_
              refine sf_iconst (v := (-1)) X dX7_isClear_108 sf_ic_m1 rfl ?_
              refine sf_icmp_ne (tgt := 116) X dX7_isClear_109 rfl rfl (fun c157 => ?_) (fun c157 => ?_)
              · have h := sf_iff c157 h
                refine sf_iconst (v := 0) X dX7_isClear_116 sf_ic_0 rfl ?_
                refine sf_iadd X dX7_isClear_117 rfl ?_
                refine sf_top (fun y158 hy158 => ?_)
                have h := h y158 hy158
                refine sf_istore (i := 6) (lv' := [(6, .int y158), (5, .int y156), (10, .int r140), (9, .int y136), (0, .ref (q 0)), (1, .int u0), (2, .int u1), (3, .int u2), (4, .int u3), (7, .int u6), (8, .int u7)]) X dX7_isClear_118 (by decide) rfl rfl ?_
                refine sf_iload (i := 7) (j := 9) X dX7_isClear_120 rfl rfl ?_
                refine sf_if_ne (tgt := 130) X dX7_isClear_122 rfl rfl (fun c159 => ?_) (fun c159 => ?_)
                · have h := sf_iff c159 h
                  refine sf_iconst (v := 1) X dX7_isClear_130 sf_ic_1 rfl ?_
                  refine sf_goto (tgt := 135) X dX7_isClear_131 rfl ?_
                  refine sf_istore (i := 7) (lv' := [(7, .int (1 : Int32)), (6, .int y158), (5, .int y156), (10, .int r140), (9, .int y136), (0, .ref (q 0)), (1, .int u0), (2, .int u1), (3, .int u2), (4, .int u3), (8, .int u7)]) X dX7_isClear_135 (by decide) rfl rfl ?_
                  refine sf_iinc (i := 8) (j := 10) (d := 1) (lv' := fun y160 => [(8, .int y160), (7, .int (1 : Int32)), (6, .int y158), (5, .int y156), (10, .int r140), (9, .int y136), (0, .ref (q 0)), (1, .int u0), (2, .int u1), (3, .int u2), (4, .int u3)]) X dX7_isClear_137 rfl sf_ic_1 (by decide) (fun _ => rfl) rfl (fun y160 hy160 => ?_)
                  have h := h y160 hy160
                  refine sf_goto (tgt := 12) X dX7_isClear_140 rfl ?_
                  refine sf_loc (lv' := [(0, .ref (q 0)), (1, .int u0), (2, .int u1), (3, .int u2), (4, .int u3), (5, .int y156), (6, .int y158), (7, .int (1 : Int32)), (8, .int y160)]) [6, 7, 8, 9, 10, 3, 2, 1, 0] rfl ?_
                  exact h
                · have h := sf_ift c159 h
                  refine sf_iload (i := 10) (j := 2) X dX7_isClear_125 rfl rfl ?_
                  refine sf_if_ne (tgt := 134) X dX7_isClear_127 rfl rfl (fun c161 => ?_) (fun c161 => ?_)
                  · have h := sf_iff c161 h
                    refine sf_iconst (v := 0) X dX7_isClear_134 sf_ic_0 rfl ?_
                    refine sf_istore (i := 7) (lv' := [(7, .int (0 : Int32)), (6, .int y158), (5, .int y156), (10, .int r140), (9, .int y136), (0, .ref (q 0)), (1, .int u0), (2, .int u1), (3, .int u2), (4, .int u3), (8, .int u7)]) X dX7_isClear_135 (by decide) rfl rfl ?_
                    refine sf_iinc (i := 8) (j := 10) (d := 1) (lv' := fun y162 => [(8, .int y162), (7, .int (0 : Int32)), (6, .int y158), (5, .int y156), (10, .int r140), (9, .int y136), (0, .ref (q 0)), (1, .int u0), (2, .int u1), (3, .int u2), (4, .int u3)]) X dX7_isClear_137 rfl sf_ic_1 (by decide) (fun _ => rfl) rfl (fun y162 hy162 => ?_)
                    have h := h y162 hy162
                    refine sf_goto (tgt := 12) X dX7_isClear_140 rfl ?_
                    refine sf_loc (lv' := [(0, .ref (q 0)), (1, .int u0), (2, .int u1), (3, .int u2), (4, .int u3), (5, .int y156), (6, .int y158), (7, .int (0 : Int32)), (8, .int y162)]) [6, 7, 8, 9, 10, 3, 2, 1, 0] rfl ?_
                    exact h
                  · have h := sf_ift c161 h
                    refine sf_iconst (v := 1) X dX7_isClear_130 sf_ic_1 rfl ?_
                    refine sf_goto (tgt := 135) X dX7_isClear_131 rfl ?_
                    refine sf_istore (i := 7) (lv' := [(7, .int (1 : Int32)), (6, .int y158), (5, .int y156), (10, .int r140), (9, .int y136), (0, .ref (q 0)), (1, .int u0), (2, .int u1), (3, .int u2), (4, .int u3), (8, .int u7)]) X dX7_isClear_135 (by decide) rfl rfl ?_
                    refine sf_iinc (i := 8) (j := 10) (d := 1) (lv' := fun y163 => [(8, .int y163), (7, .int (1 : Int32)), (6, .int y158), (5, .int y156), (10, .int r140), (9, .int y136), (0, .ref (q 0)), (1, .int u0), (2, .int u1), (3, .int u2), (4, .int u3)]) X dX7_isClear_137 rfl sf_ic_1 (by decide) (fun _ => rfl) rfl (fun y163 hy163 => ?_)
                    have h := h y163 hy163
                    refine sf_goto (tgt := 12) X dX7_isClear_140 rfl ?_
                    refine sf_loc (lv' := [(0, .ref (q 0)), (1, .int u0), (2, .int u1), (3, .int u2), (4, .int u3), (5, .int y156), (6, .int y158), (7, .int (1 : Int32)), (8, .int y163)]) [6, 7, 8, 9, 10, 3, 2, 1, 0] rfl ?_
                    exact h
              · have h := sf_ift c157 h
                refine sf_iconst (v := 1) X dX7_isClear_112 sf_ic_1 rfl ?_
                refine sf_goto (tgt := 117) X dX7_isClear_113 rfl ?_
                refine sf_iadd X dX7_isClear_117 rfl ?_
                refine sf_top (fun y164 hy164 => ?_)
                have h := h y164 hy164
                refine sf_istore (i := 6) (lv' := [(6, .int y164), (5, .int y156), (10, .int r140), (9, .int y136), (0, .ref (q 0)), (1, .int u0), (2, .int u1), (3, .int u2), (4, .int u3), (7, .int u6), (8, .int u7)]) X dX7_isClear_118 (by decide) rfl rfl ?_
                refine sf_iload (i := 7) (j := 9) X dX7_isClear_120 rfl rfl ?_
                refine sf_if_ne (tgt := 130) X dX7_isClear_122 rfl rfl (fun c165 => ?_) (fun c165 => ?_)
                · have h := sf_iff c165 h
                  refine sf_iconst (v := 1) X dX7_isClear_130 sf_ic_1 rfl ?_
                  refine sf_goto (tgt := 135) X dX7_isClear_131 rfl ?_
                  refine sf_istore (i := 7) (lv' := [(7, .int (1 : Int32)), (6, .int y164), (5, .int y156), (10, .int r140), (9, .int y136), (0, .ref (q 0)), (1, .int u0), (2, .int u1), (3, .int u2), (4, .int u3), (8, .int u7)]) X dX7_isClear_135 (by decide) rfl rfl ?_
                  refine sf_iinc (i := 8) (j := 10) (d := 1) (lv' := fun y166 => [(8, .int y166), (7, .int (1 : Int32)), (6, .int y164), (5, .int y156), (10, .int r140), (9, .int y136), (0, .ref (q 0)), (1, .int u0), (2, .int u1), (3, .int u2), (4, .int u3)]) X dX7_isClear_137 rfl sf_ic_1 (by decide) (fun _ => rfl) rfl (fun y166 hy166 => ?_)
                  have h := h y166 hy166
                  refine sf_goto (tgt := 12) X dX7_isClear_140 rfl ?_
                  refine sf_loc (lv' := [(0, .ref (q 0)), (1, .int u0), (2, .int u1), (3, .int u2), (4, .int u3), (5, .int y156), (6, .int y164), (7, .int (1 : Int32)), (8, .int y166)]) [6, 7, 8, 9, 10, 3, 2, 1, 0] rfl ?_
                  exact h
                · have h := sf_ift c165 h
                  refine sf_iload (i := 10) (j := 2) X dX7_isClear_125 rfl rfl ?_
                  refine sf_if_ne (tgt := 134) X dX7_isClear_127 rfl rfl (fun c167 => ?_) (fun c167 => ?_)
                  · have h := sf_iff c167 h
                    refine sf_iconst (v := 0) X dX7_isClear_134 sf_ic_0 rfl ?_
                    refine sf_istore (i := 7) (lv' := [(7, .int (0 : Int32)), (6, .int y164), (5, .int y156), (10, .int r140), (9, .int y136), (0, .ref (q 0)), (1, .int u0), (2, .int u1), (3, .int u2), (4, .int u3), (8, .int u7)]) X dX7_isClear_135 (by decide) rfl rfl ?_
                    refine sf_iinc (i := 8) (j := 10) (d := 1) (lv' := fun y168 => [(8, .int y168), (7, .int (0 : Int32)), (6, .int y164), (5, .int y156), (10, .int r140), (9, .int y136), (0, .ref (q 0)), (1, .int u0), (2, .int u1), (3, .int u2), (4, .int u3)]) X dX7_isClear_137 rfl sf_ic_1 (by decide) (fun _ => rfl) rfl (fun y168 hy168 => ?_)
                    have h := h y168 hy168
                    refine sf_goto (tgt := 12) X dX7_isClear_140 rfl ?_
                    refine sf_loc (lv' := [(0, .ref (q 0)), (1, .int u0), (2, .int u1), (3, .int u2), (4, .int u3), (5, .int y156), (6, .int y164), (7, .int (0 : Int32)), (8, .int y168)]) [6, 7, 8, 9, 10, 3, 2, 1, 0] rfl ?_
                    exact h
                  · have h := sf_ift c167 h
                    refine sf_iconst (v := 1) X dX7_isClear_130 sf_ic_1 rfl ?_
                    refine sf_goto (tgt := 135) X dX7_isClear_131 rfl ?_
                    refine sf_istore (i := 7) (lv' := [(7, .int (1 : Int32)), (6, .int y164), (5, .int y156), (10, .int r140), (9, .int y136), (0, .ref (q 0)), (1, .int u0), (2, .int u1), (3, .int u2), (4, .int u3), (8, .int u7)]) X dX7_isClear_135 (by decide) rfl rfl ?_
                    refine sf_iinc (i := 8) (j := 10) (d := 1) (lv' := fun y169 => [(8, .int y169), (7, .int (1 : Int32)), (6, .int y164), (5, .int y156), (10, .int r140), (9, .int y136), (0, .ref (q 0)), (1, .int u0), (2, .int u1), (3, .int u2), (4, .int u3)]) X dX7_isClear_137 rfl sf_ic_1 (by decide) (fun _ => rfl) rfl (fun y169 hy169 => ?_)
                    have h := h y169 hy169
                    refine sf_goto (tgt := 12) X dX7_isClear_140 rfl ?_
                    refine sf_loc (lv' := [(0, .ref (q 0)), (1, .int u0), (2, .int u1), (3, .int u2), (4, .int u3), (5, .int y156), (6, .int y164), (7, .int (1 : Int32)), (8, .int y169)]) [6, 7, 8, 9, 10, 3, 2, 1, 0] rfl ?_
                    exact h
          · have h := sf_ift c137 h
            refine sf_iconst (v := 2) X dX7_isClear_74 sf_ic_2 rfl ?_
            refine sf_goto (tgt := 86) X dX7_isClear_75 rfl ?_
            refine sf_istore (i := 10) (lv' := [(10, .int (2 : Int32)), (9, .int y136), (0, .ref (q 0)), (1, .int u0), (2, .int u1), (3, .int u2), (4, .int u3), (5, .int u4), (6, .int u5), (7, .int u6), (8, .int u7)]) X dX7_isClear_86 (by decide) rfl rfl ?_
            refine sf_iload (i := 5) (j := 7) X dX7_isClear_88 rfl rfl ?_
            refine sf_iload (i := 10) (j := 0) X dX7_isClear_90 rfl rfl ?_
            refine sf_iconst (v := 1) X dX7_isClear_92 sf_ic_1 rfl ?_
            refine sf_icmp_ne (tgt := 100) X dX7_isClear_93 rfl rfl (fun c170 => ?_) (fun c170 => ?_)
            · have h := sf_iff c170 h
              refine sf_iconst (v := 0) X dX7_isClear_100 sf_ic_0 rfl ?_
              refine sf_iadd X dX7_isClear_101 rfl ?_
              refine sf_top (fun y171 hy171 => ?_)
              have h := h y171 hy171
              refine sf_istore (i := 5) (lv' := [(5, .int y171), (10, .int (2 : Int32)), (9, .int y136), (0, .ref (q 0)), (1, .int u0), (2, .int u1), (3, .int u2), (4, .int u3), (6, .int u5), (7, .int u6), (8, .int u7)]) X dX7_isClear_102 (by decide) rfl rfl ?_
              refine sf_iload (i := 6) (j := 8) X dX7_isClear_104 rfl rfl ?_
              refine sf_iload (i := 10) (j := 1) X dX7_isClear_106 rfl rfl ?_
              refine sf_iconst (v := (-1)) X dX7_isClear_108 sf_ic_m1 rfl ?_
              refine sf_icmp_ne (tgt := 116) X dX7_isClear_109 rfl rfl (fun c172 => ?_) (fun c172 => ?_)
              · have h := sf_iff c172 h
                refine sf_iconst (v := 0) X dX7_isClear_116 sf_ic_0 rfl ?_
                refine sf_iadd X dX7_isClear_117 rfl ?_
                refine sf_top (fun y173 hy173 => ?_)
                have h := h y173 hy173
                refine sf_istore (i := 6) (lv' := [(6, .int y173), (5, .int y171), (10, .int (2 : Int32)), (9, .int y136), (0, .ref (q 0)), (1, .int u0), (2, .int u1), (3, .int u2), (4, .int u3), (7, .int u6), (8, .int u7)]) X dX7_isClear_118 (by decide) rfl rfl ?_
                refine sf_iload (i := 7) (j := 9) X dX7_isClear_120 rfl rfl ?_
                refine sf_if_ne (tgt := 130) X dX7_isClear_122 rfl rfl (fun c174 => ?_) (fun c174 => ?_)
                · have h := sf_iff c174 h
                  refine sf_iconst (v := 1) X dX7_isClear_130 sf_ic_1 rfl ?_
                  refine sf_goto (tgt := 135) X dX7_isClear_131 rfl ?_
                  refine sf_istore (i := 7) (lv' := [(7, .int (1 : Int32)), (6, .int y173), (5, .int y171), (10, .int (2 : Int32)), (9, .int y136), (0, .ref (q 0)), (1, .int u0), (2, .int u1), (3, .int u2), (4, .int u3), (8, .int u7)]) X dX7_isClear_135 (by decide) rfl rfl ?_
                  refine sf_iinc (i := 8) (j := 10) (d := 1) (lv' := fun y175 => [(8, .int y175), (7, .int (1 : Int32)), (6, .int y173), (5, .int y171), (10, .int (2 : Int32)), (9, .int y136), (0, .ref (q 0)), (1, .int u0), (2, .int u1), (3, .int u2), (4, .int u3)]) X dX7_isClear_137 rfl sf_ic_1 (by decide) (fun _ => rfl) rfl (fun y175 hy175 => ?_)
                  have h := h y175 hy175
                  refine sf_goto (tgt := 12) X dX7_isClear_140 rfl ?_
                  refine sf_loc (lv' := [(0, .ref (q 0)), (1, .int u0), (2, .int u1), (3, .int u2), (4, .int u3), (5, .int y171), (6, .int y173), (7, .int (1 : Int32)), (8, .int y175)]) [6, 7, 8, 9, 10, 3, 2, 1, 0] rfl ?_
                  exact h
                · have h := sf_ift c174 h
                  refine sf_iload (i := 10) (j := 2) X dX7_isClear_125 rfl rfl ?_
                  refine sf_if_ne (tgt := 134) X dX7_isClear_127 rfl rfl (fun c176 => ?_) (fun c176 => ?_)
                  · have h := sf_iff c176 h
                    refine sf_iconst (v := 0) X dX7_isClear_134 sf_ic_0 rfl ?_
                    refine sf_istore (i := 7) (lv' := [(7, .int (0 : Int32)), (6, .int y173), (5, .int y171), (10, .int (2 : Int32)), (9, .int y136), (0, .ref (q 0)), (1, .int u0), (2, .int u1), (3, .int u2), (4, .int u3), (8, .int u7)]) X dX7_isClear_135 (by decide) rfl rfl ?_
                    refine sf_iinc (i := 8) (j := 10) (d := 1) (lv' := fun y177 => [(8, .int y177), (7, .int (0 : Int32)), (6, .int y173), (5, .int y171), (10, .int (2 : Int32)), (9, .int y136), (0, .ref (q 0)), (1, .int u0), (2, .int u1), (3, .int u2), (4, .int u3)]) X dX7_isClear_137 rfl sf_ic_1 (by decide) (fun _ => rfl) rfl (fun y177 hy177 => ?_)
                    have h := h y177 hy177
                    refine sf_goto (tgt := 12) X dX7_isClear_140 rfl ?_
                    refine sf_loc (lv' := [(0, .ref (q 0)), (1, .int u0), (2, .int u1), (3, .int u2), (4, .int u3), (5, .int y171), (6, .int y173), (7, .int (0 : Int32)), (8, .int y177)]) [6, 7, 8, 9, 10, 3, 2, 1, 0] rfl ?_
                    exact h
                  · have h := sf_ift c176 h
                    refine sf_iconst (v := 1) X dX7_isClear_130 sf_ic_1 rfl ?_
                    refine sf_goto (tgt := 135) X dX7_isClear_131 rfl ?_
                    refine sf_istore (i := 7) (lv' := [(7, .int (1 : Int32)), (6, .int y173), (5, .int y171), (10, .int (2 : Int32)), (9, .int y136), (0, .ref (q 0)), (1, .int u0), (2, .int u1), (3, .int u2), (4, .int u3), (8, .int u7)]) X dX7_isClear_135 (by decide) rfl rfl ?_
                    refine sf_iinc (i := 8) (j := 10) (d := 1) (lv' := fun y178 => [(8, .int y178), (7, .int (1 : Int32)), (6, .int y173), (5, .int y171), (10, .int (2 : Int32)), (9, .int y136), (0, .ref (q 0)), (1, .int u0), (2, .int u1), (3, .int u2), (4, .int u3)]) X dX7_isClear_137 rfl sf_ic_1 (by decide) (fun _ => rfl) rfl (fun y178 hy178 => ?_)
                    have h := h y178 hy178
                    refine sf_goto (tgt := 12) X dX7_isClear_140 rfl ?_
                    refine sf_loc (lv' := [(0, .ref (q 0)), (1, .int u0), (2, .int u1), (3, .int u2), (4, .int u3), (5, .int y171), (6, .int y173), (7, .int (1 : Int32)), (8, .int y178)]) [6, 7, 8, 9, 10, 3, 2, 1, 0] rfl ?_
                    exact h
              · have h := sf_ift c172 h
                refine sf_iconst (v := 1) X dX7_isClear_112 sf_ic_1 rfl ?_
                refine sf_goto (tgt := 117) X dX7_isClear_113 rfl ?_
                refine sf_iadd X dX7_isClear_117 rfl ?_
                refine sf_top (fun y179 hy179 => ?_)
                have h := h y179 hy179
                refine sf_istore (i := 6) (lv' := [(6, .int y179), (5, .int y171), (10, .int (2 : Int32)), (9, .int y136), (0, .ref (q 0)), (1, .int u0), (2, .int u1), (3, .int u2), (4, .int u3), (7, .int u6), (8, .int u7)]) X dX7_isClear_118 (by decide) rfl rfl ?_
                refine sf_iload (i := 7) (j := 9) X dX7_isClear_120 rfl rfl ?_
                refine sf_if_ne (tgt := 130) X dX7_isClear_122 rfl rfl (fun c180 => ?_) (fun c180 => ?_)
                · have h := sf_iff c180 h
                  refine sf_iconst (v := 1) X dX7_isClear_130 sf_ic_1 rfl ?_
                  refine sf_goto (tgt := 135) X dX7_isClear_131 rfl ?_
                  refine sf_istore (i := 7) (lv' := [(7, .int (1 : Int32)), (6, .int y179), (5, .int y171), (10, .int (2 : Int32)), (9, .int y136), (0, .ref (q 0)), (1, .int u0), (2, .int u1), (3, .int u2), (4, .int u3), (8, .int u7)]) X dX7_isClear_135 (by decide) rfl rfl ?_
                  refine sf_iinc (i := 8) (j := 10) (d := 1) (lv' := fun y181 => [(8, .int y181), (7, .int (1 : Int32)), (6, .int y179), (5, .int y171), (10, .int (2 : Int32)), (9, .int y136), (0, .ref (q 0)), (1, .int u0), (2, .int u1), (3, .int u2), (4, .int u3)]) X dX7_isClear_137 rfl sf_ic_1 (by decide) (fun _ => rfl) rfl (fun y181 hy181 => ?_)
                  have h := h y181 hy181
                  refine sf_goto (tgt := 12) X dX7_isClear_140 rfl ?_
                  refine sf_loc (lv' := [(0, .ref (q 0)), (1, .int u0), (2, .int u1), (3, .int u2), (4, .int u3), (5, .int y171), (6, .int y179), (7, .int (1 : Int32)), (8, .int y181)]) [6, 7, 8, 9, 10, 3, 2, 1, 0] rfl ?_
                  exact h
                · have h := sf_ift c180 h
                  refine sf_iload (i := 10) (j := 2) X dX7_isClear_125 rfl rfl ?_
                  refine sf_if_ne (tgt := 134) X dX7_isClear_127 rfl rfl (fun c182 => ?_) (fun c182 => ?_)
                  · have h := sf_iff c182 h
                    refine sf_iconst (v := 0) X dX7_isClear_134 sf_ic_0 rfl ?_
                    refine sf_istore (i := 7) (lv' := [(7, .int (0 : Int32)), (6, .int y179), (5, .int y171), (10, .int (2 : Int32)), (9, .int y136), (0, .ref (q 0)), (1, .int u0), (2, .int u1), (3, .int u2), (4, .int u3), (8, .int u7)]) X dX7_isClear_135 (by decide) rfl rfl ?_
                    refine sf_iinc (i := 8) (j := 10) (d := 1) (lv' := fun y183 => [(8, .int y183), (7, .int (0 : Int32)), (6, .int y179), (5, .int y171), (10, .int (2 : Int32)), (9, .int y136), (0, .ref (q 0)), (1, .int u0), (2, .int u1), (3, .int u2), (4, .int u3)]) X dX7_isClear_137 rfl sf_ic_1 (by decide) (fun _ => rfl) rfl (fun y183 hy183 => ?_)
                    have h := h y183 hy183
                    refine sf_goto (tgt := 12) X dX7_isClear_140 rfl ?_
                    refine sf_loc (lv' := [(0, .ref (q 0)), (1, .int u0), (2, .int u1), (3, .int u2), (4, .int u3), (5, .int y171), (6, .int y179), (7, .int (0 : Int32)), (8, .int y183)]) [6, 7, 8, 9, 10, 3, 2, 1, 0] rfl ?_
                    exact h
                  · have h := sf_ift c182 h
                    refine sf_iconst (v := 1) X dX7_isClear_130 sf_ic_1 rfl ?_
                    refine sf_goto (tgt := 135) X dX7_isClear_131 rfl ?_
                    refine sf_istore (i := 7) (lv' := [(7, .int (1 : Int32)), (6, .int y179), (5, .int y171), (10, .int (2 : Int32)), (9, .int y136), (0, .ref (q 0)), (1, .int u0), (2, .int u1), (3, .int u2), (4, .int u3), (8, .int u7)]) X dX7_isClear_135 (by decide) rfl rfl ?_
                    refine sf_iinc (i := 8) (j := 10) (d := 1) (lv' := fun y184 => [(8, .int y184), (7, .int (1 : Int32)), (6, .int y179), (5, .int y171), (10, .int (2 : Int32)), (9, .int y136), (0, .ref (q 0)), (1, .int u0), (2, .int u1), (3, .int u2), (4, .int u3)]) X dX7_isClear_137 rfl sf_ic_1 (by decide) (fun _ => rfl) rfl (fun y184 hy184 => ?_)
                    have h := h y184 hy184
                    refine sf_goto (tgt := 12) X dX7_isClear_140 rfl ?_
                    refine sf_loc (lv' := [(0, .ref (q 0)), (1, .int u0), (2, .int u1), (3, .int u2), (4, .int u3), (5, .int y171), (6, .int y179), (7, .int (1 : Int32)), (8, .int y184)]) [6, 7, 8, 9, 10, 3, 2, 1, 0] rfl ?_
                    exact h
            · have h := sf_ift c170 h
              refine sf_iconst (v := 1) X dX7_isClear_96 sf_ic_1 rfl ?_
              refine sf_goto (tgt := 101) X dX7_isClear_97 rfl ?_
              refine sf_iadd X dX7_isClear_101 rfl ?_
              refine sf_top (fun y185 hy185 => ?_)
              have h := h y185 hy185
              refine sf_istore (i := 5) (lv' := [(5, .int y185), (10, .int (2 : Int32)), (9, .int y136), (0, .ref (q 0)), (1, .int u0), (2, .int u1), (3, .int u2), (4, .int u3), (6, .int u5), (7, .int u6), (8, .int u7)]) X dX7_isClear_102 (by decide) rfl rfl ?_
              refine sf_iload (i := 6) (j := 8) X dX7_isClear_104 rfl rfl ?_
              refine sf_iload (i := 10) (j := 1) X dX7_isClear_106 rfl rfl ?_
              refine sf_iconst (v := (-1)) X dX7_isClear_108 sf_ic_m1 rfl ?_
              refine sf_icmp_ne (tgt := 116) X dX7_isClear_109 rfl rfl (fun c186 => ?_) (fun c186 => ?_)
              · have h := sf_iff c186 h
                refine sf_iconst (v := 0) X dX7_isClear_116 sf_ic_0 rfl ?_
                refine sf_iadd X dX7_isClear_117 rfl ?_
                refine sf_top (fun y187 hy187 => ?_)
                have h := h y187 hy187
                refine sf_istore (i := 6) (lv' := [(6, .int y187), (5, .int y185), (10, .int (2 : Int32)), (9, .int y136), (0, .ref (q 0)), (1, .int u0), (2, .int u1), (3, .int u2), (4, .int u3), (7, .int u6), (8, .int u7)]) X dX7_isClear_118 (by decide) rfl rfl ?_
                refine sf_iload (i := 7) (j := 9) X dX7_isClear_120 rfl rfl ?_
                refine sf_if_ne (tgt := 130) X dX7_isClear_122 rfl rfl (fun c188 => ?_) (fun c188 => ?_)
                · have h := sf_iff c188 h
                  refine sf_iconst (v := 1) X dX7_isClear_130 sf_ic_1 rfl ?_
                  refine sf_goto (tgt := 135) X dX7_isClear_131 rfl ?_
                  refine sf_istore (i := 7) (lv' := [(7, .int (1 : Int32)), (6, .int y187), (5, .int y185), (10, .int (2 : Int32)), (9, .int y136), (0, .ref (q 0)), (1, .int u0), (2, .int u1), (3, .int u2), (4, .int u3), (8, .int u7)]) X dX7_isClear_135 (by decide) rfl rfl ?_
                  refine sf_iinc (i := 8) (j := 10) (d := 1) (lv' := fun y189 => [(8, .int y189), (7, .int (1 : Int32)), (6, .int y187), (5, .int y185), (10, .int (2 : Int32)), (9, .int y136), (0, .ref (q 0)), (1, .int u0), (2, .int u1), (3, .int u2), (4, .int u3)]) X dX7_isClear_137 rfl sf_ic_1 (by decide) (fun _ => rfl) rfl (fun y189 hy189 => ?_)
                  have h := h y189 hy189
                  refine sf_goto (tgt := 12) X dX7_isClear_140 rfl ?_
                  refine sf_loc (lv' := [(0, .ref (q 0)), (1, .int u0), (2, .int u1), (3, .int u2), (4, .int u3), (5, .int y185), (6, .int y187), (7, .int (1 : Int32)), (8, .int y189)]) [6, 7, 8, 9, 10, 3, 2, 1, 0] rfl ?_
                  exact h
                · have h := sf_ift c188 h
                  refine sf_iload (i := 10) (j := 2) X dX7_isClear_125 rfl rfl ?_
                  refine sf_if_ne (tgt := 134) X dX7_isClear_127 rfl rfl (fun c190 => ?_) (fun c190 => ?_)
                  · have h := sf_iff c190 h
                    refine sf_iconst (v := 0) X dX7_isClear_134 sf_ic_0 rfl ?_
                    refine sf_istore (i := 7) (lv' := [(7, .int (0 : Int32)), (6, .int y187), (5, .int y185), (10, .int (2 : Int32)), (9, .int y136), (0, .ref (q 0)), (1, .int u0), (2, .int u1), (3, .int u2), (4, .int u3), (8, .int u7)]) X dX7_isClear_135 (by decide) rfl rfl ?_
                    refine sf_iinc (i := 8) (j := 10) (d := 1) (lv' := fun y191 => [(8, .int y191), (7, .int (0 : Int32)), (6, .int y187), (5, .int y185), (10, .int (2 : Int32)), (9, .int y136), (0, .ref (q 0)), (1, .int u0), (2, .int u1), (3, .int u2), (4, .int u3)]) X dX7_isClear_137 rfl sf_ic_1 (by decide) (fun _ => rfl) rfl (fun y191 hy191 => ?_)
                    have h := h y191 hy191
                    refine sf_goto (tgt := 12) X dX7_isClear_140 rfl ?_
                    refine sf_loc (lv' := [(0, .ref (q 0)), (1, .int u0), (2, .int u1), (3, .int u2), (4, .int u3), (5, .int y185), (6, .int y187), (7, .int (0 : Int32)), (8, .int y191)]) [6, 7, 8, 9, 10, 3, 2, 1, 0] rfl ?_
                    exact h
                  · have h := sf_ift c190 h
                    refine sf_iconst (v := 1) X dX7_isClear_130 sf_ic_1 rfl ?_
                    refine sf_goto (tgt := 135) X dX7_isClear_131 rfl ?_
                    refine sf_istore (i := 7) (lv' := [(7, .int (1 : Int32)), (6, .int y187), (5, .int y185), (10, .int (2 : Int32)), (9, .int y136), (0, .ref (q 0)), (1, .int u0), (2, .int u1), (3, .int u2), (4, .int u3), (8, .int u7)]) X dX7_isClear_135 (by decide) rfl rfl ?_
                    refine sf_iinc (i := 8) (j := 10) (d := 1) (lv' := fun y192 => [(8, .int y192), (7, .int (1 : Int32)), (6, .int y187), (5, .int y185), (10, .int (2 : Int32)), (9, .int y136), (0, .ref (q 0)), (1, .int u0), (2, .int u1), (3, .int u2), (4, .int u3)]) X dX7_isClear_137 rfl sf_ic_1 (by decide) (fun _ => rfl) rfl (fun y192 hy192 => ?_)
                    have h := h y192 hy192
                    refine sf_goto (tgt := 12) X dX7_isClear_140 rfl ?_
                    refine sf_loc (lv' := [(0, .ref (q 0)), (1, .int u0), (2, .int u1), (3, .int u2), (4, .int u3), (5, .int y185), (6, .int y187), (7, .int (1 : Int32)), (8, .int y192)]) [6, 7, 8, 9, 10, 3, 2, 1, 0] rfl ?_
                    exact h
              · have h := sf_ift c186 h
                refine sf_iconst (v := 1) X dX7_isClear_112 sf_ic_1 rfl ?_
                refine sf_goto (tgt := 117) X dX7_isClear_113 rfl ?_
                refine sf_iadd X dX7_isClear_117 rfl ?_
                refine sf_top (fun y193 hy193 => ?_)
                have h := h y193 hy193
                refine sf_istore (i := 6) (lv' := [(6, .int y193), (5, .int y185), (10, .int (2 : Int32)), (9, .int y136), (0, .ref (q 0)), (1, .int u0), (2, .int u1), (3, .int u2), (4, .int u3), (7, .int u6), (8, .int u7)]) X dX7_isClear_118 (by decide) rfl rfl ?_
                refine sf_iload (i := 7) (j := 9) X dX7_isClear_120 rfl rfl ?_
                refine sf_if_ne (tgt := 130) X dX7_isClear_122 rfl rfl (fun c194 => ?_) (fun c194 => ?_)
                · have h := sf_iff c194 h
                  refine sf_iconst (v := 1) X dX7_isClear_130 sf_ic_1 rfl ?_
                  refine sf_goto (tgt := 135) X dX7_isClear_131 rfl ?_
                  refine sf_istore (i := 7) (lv' := [(7, .int (1 : Int32)), (6, .int y193), (5, .int y185), (10, .int (2 : Int32)), (9, .int y136), (0, .ref (q 0)), (1, .int u0), (2, .int u1), (3, .int u2), (4, .int u3), (8, .int u7)]) X dX7_isClear_135 (by decide) rfl rfl ?_
                  refine sf_iinc (i := 8) (j := 10) (d := 1) (lv' := fun y195 => [(8, .int y195), (7, .int (1 : Int32)), (6, .int y193), (5, .int y185), (10, .int (2 : Int32)), (9, .int y136), (0, .ref (q 0)), (1, .int u0), (2, .int u1), (3, .int u2), (4, .int u3)]) X dX7_isClear_137 rfl sf_ic_1 (by decide) (fun _ => rfl) rfl (fun y195 hy195 => ?_)
                  have h := h y195 hy195
                  refine sf_goto (tgt := 12) X dX7_isClear_140 rfl ?_
                  refine sf_loc (lv' := [(0, .ref (q 0)), (1, .int u0), (2, .int u1), (3, .int u2), (4, .int u3), (5, .int y185), (6, .int y193), (7, .int (1 : Int32)), (8, .int y195)]) [6, 7, 8, 9, 10, 3, 2, 1, 0] rfl ?_
                  exact h
                · have h := sf_ift c194 h
                  refine sf_iload (i := 10) (j := 2) X dX7_isClear_125 rfl rfl ?_
                  refine sf_if_ne (tgt := 134) X dX7_isClear_127 rfl rfl (fun c196 => ?_) (fun c196 => ?_)
                  · have h := sf_iff c196 h
                    refine sf_iconst (v := 0) X dX7_isClear_134 sf_ic_0 rfl ?_
                    refine sf_istore (i := 7) (lv' := [(7, .int (0 : Int32)), (6, .int y193), (5, .int y185), (10, .int (2 : Int32)), (9, .int y136), (0, .ref (q 0)), (1, .int u0), (2, .int u1), (3, .int u2), (4, .int u3), (8, .int u7)]) X dX7_isClear_135 (by decide) rfl rfl ?_
                    refine sf_iinc (i := 8) (j := 10) (d := 1) (lv' := fun y197 => [(8, .int y197), (7, .int (0 : Int32)), (6, .int y193), (5, .int y185), (10, .int (2 : Int32)), (9, .int y136), (0, .ref (q 0)), (1, .int u0), (2, .int u1), (3, .int u2), (4, .int u3)]) X dX7_isClear_137 rfl sf_ic_1 (by decide) (fun _ => rfl) rfl (fun y197 hy197 => ?_)
                    have h := h y197 hy197
                    refine sf_goto (tgt := 12) X dX7_isClear_140 rfl ?_
                    refine sf_loc (lv' := [(0, .ref (q 0)), (1, .int u0), (2, .int u1), (3, .int u2), (4, .int u3), (5, .int y185), (6, .int y193), (7, .int (0 : Int32)), (8, .int y197)]) [6, 7, 8, 9, 10, 3, 2, 1, 0] rfl ?_
                    exact h
                  · have h := sf_ift c196 h
                    refine sf_iconst (v := 1) X dX7_isClear_130 sf_ic_1 rfl ?_
                    refine sf_goto (tgt := 135) X dX7_isClear_131 rfl ?_
                    refine sf_istore (i := 7) (lv' := [(7, .int (1 : Int32)), (6, .int y193), (5, .int y185), (10, .int (2 : Int32)), (9, .int y136), (0, .ref (q 0)), (1, .int u0), (2, .int u1), (3, .int u2), (4, .int u3), (8, .int u7)]) X dX7_isClear_135 (by decide) rfl rfl ?_
                    refine sf_iinc (i := 8) (j := 10) (d := 1) (lv' := fun y198 => [(8, .int y198), (7, .int (1 : Int32)), (6, .int y193), (5, .int y185), (10, .int (2 : Int32)), (9, .int y136), (0, .ref (q 0)), (1, .int u0), (2, .int u1), (3, .int u2), (4, .int u3)]) X dX7_isClear_137 rfl sf_ic_1 (by decide) (fun _ => rfl) rfl (fun y198 hy198 => ?_)
                    have h := h y198 hy198
                    refine sf_goto (tgt := 12) X dX7_isClear_140 rfl ?_
                    refine sf_loc (lv' := [(0, .ref (q 0)), (1, .int u0), (2, .int u1), (3, .int u2), (4, .int u3), (5, .int y185), (6, .int y193), (7, .int (1 : Int32)), (8, .int y198)]) [6, 7, 8, 9, 10, 3, 2, 1, 0] rfl ?_
                    exact h
  | (_ + 2), _ => exact trivial
