/-! from the law's entry to its loop -/
theorem lg_env {s : State} {b : Nat} (hts : ∀ w ∈ lw_tbl, w.before #[Value.ref b] s = true) (hgv : (Jvm.Cond.and given_1 narrow_1).before #[Value.ref b] s = true) : ∃ tv ta tb : Nat, ∀ q : Nat → Nat, (∀ i, i < KX.length → s.heap.size ≤ q i) → sf_EX q tv ta tb s := by
  have hs := flat_of_before _ hgv
  have hA : ∀ a : Nat, a < s.heap.size → ¬ (fun a => s.heap.size ≤ a) a := fun a h1 h2 => by dsimp only at h2; omega
  obtain ⟨tv, htv, hT⟩ := va_Tof (tm := (.static "StereoForms" "VALENCES" "[I")) (ty := .int) (N := 6) (f := fun j => .int (sf_vals.getD j 0)) (by decide) (hs (.arrayOf (.static "StereoForms" "VALENCES" "[I") .int) (by decide +kernel)) (va_eqt (hs (.eq (.length (.static "StereoForms" "VALENCES" "[I")) (.int 6)) (by decide +kernel))) (fun j hj => by
    have hj' : j = 0 ∨ j = 1 ∨ j = 2 ∨ j = 3 ∨ j = 4 ∨ j = 5 := by omega
    rcases hj' with rfl | rfl | rfl | rfl | rfl | rfl
    · exact va_eqt (hs (.eq (.elem (.static "StereoForms" "VALENCES" "[I") (.int 0)) (.int 4)) (by decide +kernel))
    · exact va_eqt (hs (.eq (.elem (.static "StereoForms" "VALENCES" "[I") (.int 1)) (.int 3)) (by decide +kernel))
    · exact va_eqt (hs (.eq (.elem (.static "StereoForms" "VALENCES" "[I") (.int 2)) (.int 2)) (by decide +kernel))
    · exact va_eqt (hs (.eq (.elem (.static "StereoForms" "VALENCES" "[I") (.int 3)) (.int 1)) (by decide +kernel))
    · exact va_eqt (hs (.eq (.elem (.static "StereoForms" "VALENCES" "[I") (.int 4)) (.int 1)) (by decide +kernel))
    · exact va_eqt (hs (.eq (.elem (.static "StereoForms" "VALENCES" "[I") (.int 5)) (.int 2)) (by decide +kernel))) hA
  have hZ := va_Zref (hts _ (List.mem_append_right _ (List.mem_append_left _ (List.mem_of_getElem? (i := 223) rfl)))) (hts _ (List.mem_append_right _ (List.mem_append_left _ (List.mem_of_getElem? (i := 1) rfl)))) htv hA
  obtain ⟨adK, adV, hS, hSe⟩ := vk_Sof (N := 1) (tm := fun _ => (.string "StereoForms$Text" 62)) (len := [6]) (byt := [sf_byts]) (A := fun a => s.heap.size ≤ a) (args := #[Value.ref b]) (s := s) (fun i hi => by rcases i with _ | n <;> first | decide | omega)
    (fun i hi => hs (.exactly (.string "StereoForms$Text" 62) "java/lang/String") (by decide +kernel)) (fun i hi => hs (.eq (.field (.string "StereoForms$Text" 62) "java/lang/String" "coder" "B") (.int 0)) (by decide +kernel))
    (fun i hi => hs (.arrayOf (.field (.string "StereoForms$Text" 62) "java/lang/String" "value" "[B") .byte) (by decide +kernel)) (fun i hi => by
      have : i = 0 := by omega
      subst this
      exact hs (.eq (.length (.field (.string "StereoForms$Text" 62) "java/lang/String" "value" "[B")) (.int 6)) (by decide +kernel))
    (fun i hi j hj => by
      have : i = 0 := by omega
      subst this
      have hj' : j = 0 ∨ j = 1 ∨ j = 2 ∨ j = 3 ∨ j = 4 ∨ j = 5 := by
        have h6 : j < 6 := hj
        omega
      rcases hj' with rfl | rfl | rfl | rfl | rfl | rfl
      · exact hs (.eq (.elem (.field (.string "StereoForms$Text" 62) "java/lang/String" "value" "[B") (.int 0)) (.int 67)) (by decide +kernel)
      · exact hs (.eq (.elem (.field (.string "StereoForms$Text" 62) "java/lang/String" "value" "[B") (.int 1)) (.int 78)) (by decide +kernel)
      · exact hs (.eq (.elem (.field (.string "StereoForms$Text" 62) "java/lang/String" "value" "[B") (.int 2)) (.int 79)) (by decide +kernel)
      · exact hs (.eq (.elem (.field (.string "StereoForms$Text" 62) "java/lang/String" "value" "[B") (.int 3)) (.int 70)) (by decide +kernel)
      · exact hs (.eq (.elem (.field (.string "StereoForms$Text" 62) "java/lang/String" "value" "[B") (.int 4)) (.int 67)) (by decide +kernel)
      · exact hs (.eq (.elem (.field (.string "StereoForms$Text" 62) "java/lang/String" "value" "[B") (.int 5)) (.int 83)) (by decide +kernel))
    (fun i j hi hj hne => absurd (by omega : i = j) hne) hA
  have hR := vk_R.of (hts _ (List.mem_append_right _ (List.mem_append_right _ (List.mem_append_right _ (List.mem_append_left _ (List.mem_of_getElem? (i := 44) rfl)))))) (hSe 0 (by decide))
  have hC := va_Zof (hts _ (List.mem_append_right _ (List.mem_append_right _ (List.mem_append_right _ (List.mem_append_left _ (List.mem_of_getElem? (i := 54) rfl)))))) (hts _ (List.mem_append_right _ (List.mem_append_left _ (List.mem_of_getElem? (i := 12) rfl)))) (va_eqi (hs (.eq (.static "java/lang/String" "COMPACT_STRINGS" "Z") (.int 1)) (by decide +kernel))) hA
  have hF := va_Zqof (hts _ (List.mem_append_right _ (List.mem_append_right _ (List.mem_append_right _ (List.mem_append_left _ (List.mem_of_getElem? (i := 62) rfl)))))) (hts _ (List.mem_append_right _ (List.mem_append_left _ (List.mem_of_getElem? (i := 14) rfl)))) (hs (.isRef (.static "jdk/internal/util/Preconditions" "SIOOBE_FORMATTER" "Ljava/util/function/BiFunction;")) (by decide +kernel)) hA
  refine ⟨tv, adK 0, adV 0, fun q hq => ?_⟩
  have hAB : ∀ a, sf_A q KX a → (fun a => s.heap.size ≤ a) a := fun a h => by
    obtain ⟨i, h1, h2⟩ := h
    show s.heap.size ≤ a
    rw [h2]
    exact hq i h1
  refine ⟨hZ.narrow hAB, hT.narrow hAB, fun w hw => ?_, hR, vk_S.narrow ⟨fun i hi => ?_, fun i j hi hj _ => by omega⟩ hAB, hC.narrow hAB, hF.narrow hAB⟩
  · simp only [sf_nest, List.mem_cons, List.not_mem_nil, or_false] at hw
    rcases hw with e | e | e
    · subst e; exact va_Nw.of rfl (hts _ (List.mem_append_right _ (List.mem_append_right _ (List.mem_append_left _ (List.mem_of_getElem? (i := 10) rfl)))))
    · subst e; exact va_Nw.of rfl (hts _ (List.mem_append_right _ (List.mem_append_right _ (List.mem_append_left _ (List.mem_of_getElem? (i := 92) rfl)))))
    · subst e; exact va_Nw.of rfl (hts _ (List.mem_append_right _ (List.mem_append_right _ (List.mem_append_left _ (List.mem_of_getElem? (i := 125) rfl)))))
  · have : i = 0 := by omega
    subst this
    exact hS.1 0 hi
theorem lg_known {s : State} {b : Nat} (hts : ∀ w ∈ lw_tbl, w.before #[Value.ref b] s = true) : ∃ (D : va_G) (dA : Nat → ClassId), va_K D vwCl (sf_tys dA) s ∧ al_EN s := by
  obtain ⟨cX0, iX0, hX0⟩ := u_known (C := RX0) (T := TX0) (N := 10) hts (fun w h => (List.mem_filter.mp (inX0 w h)).1) (hts _ (List.mem_append_right _ (List.mem_append_left _ (List.mem_of_getElem? (i := 25) rfl))))
  obtain ⟨cX1, iX1, hX1⟩ := u_known (C := RX1) (T := TX1) (N := 3) hts (fun w h => (List.mem_filter.mp (inX1 w h)).1) (hts _ (List.mem_append_right _ (List.mem_append_left _ (List.mem_of_getElem? (i := 148) rfl))))
  obtain ⟨cX2, iX2, hX2⟩ := u_known (C := RX2) (T := TX2) (N := 2) hts (fun w h => (List.mem_filter.mp (inX2 w h)).1) (hts _ (List.mem_append_right _ (List.mem_append_left _ (List.mem_of_getElem? (i := 113) rfl))))
  obtain ⟨cX3, iX3, hX3⟩ := u_known (C := RX3) (T := TX3) (N := 5) hts (fun w h => (List.mem_filter.mp (inX3 w h)).1) (hts _ (List.mem_append_right _ (List.mem_append_left _ (List.mem_of_getElem? (i := 107) rfl))))
  obtain ⟨cX4, iX4, hX4⟩ := u_known (C := RX4) (T := TX4) (N := 4) hts (fun w h => (List.mem_filter.mp (inX4 w h)).1) (hts _ (List.mem_append_right _ (List.mem_append_left _ (List.mem_of_getElem? (i := 84) rfl))))
  obtain ⟨cX5, iX5, hX5⟩ := u_known (C := RX5) (T := TX5) (N := 2) hts (fun w h => (List.mem_filter.mp (inX5 w h)).1) (hts _ (List.mem_append_right _ (List.mem_append_left _ (List.mem_of_getElem? (i := 169) rfl))))
  obtain ⟨cX6, iX6, hX6⟩ := u_known (C := RX6) (T := TX6) (N := 11) hts (fun w h => (List.mem_filter.mp (inX6 w h)).1) (hts _ (List.mem_append_right _ (List.mem_append_left _ (List.mem_of_getElem? (i := 17) rfl))))
  obtain ⟨cX7, iX7, hX7⟩ := u_known (C := RX7) (T := TX7) (N := 23) hts (fun w h => (List.mem_filter.mp (inX7 w h)).1) (hts _ (List.mem_append_right _ (List.mem_append_right _ (List.mem_append_right _ (List.mem_append_left _ (List.mem_of_getElem? (i := 106) rfl))))))
  obtain ⟨a0, k0, p0, f0, g0, e0⟩ := Cond.arrayClass_spec (hts (.arrayClass .int) (List.mem_append_right _ (List.mem_append_left _ (List.mem_of_getElem? (i := 82) rfl))))
  obtain ⟨a1, k1, p1, f1, g1, e1⟩ := Cond.arrayClass_spec (hts (.arrayClass .boolean) (List.mem_append_right _ (List.mem_append_left _ (List.mem_of_getElem? (i := 105) rfl))))
  obtain ⟨a2, k2, p2, f2, g2, e2⟩ := Cond.arrayClass_spec (hts (.arrayClass .char) (List.mem_append_right _ (List.mem_append_left _ (List.mem_of_getElem? (i := 183) rfl))))
  have hao : (Cond.arrayOver (.array .int)).before #[Value.ref b] s = true := hts _ (List.mem_append_right _ (List.mem_append_left _ (List.mem_of_getElem? (i := 31) rfl)))
  obtain ⟨p3, a3, k3, f3', g3, e3, f3⟩ := Cond.arrayOver_specA hao
  refine ⟨(fun c => [cX0, cX1, cX2, cX3, cX4, cX5, cX6, cX7].getD c 0, fun c => [iX0, iX1, iX2, iX3, iX4, iX5, iX6, iX7].getD c (fun _ => 0)), fun t => [a0, a1, a2, a3].getD t 0, ⟨fun c x hx => ?_, fun k x hx => ?_⟩, hao, fun w hw => ?_⟩
  · match c, hx with
    | 0, hx => cases hx; exact hX0
    | 1, hx => cases hx; exact hX1
    | 2, hx => cases hx; exact hX2
    | 3, hx => cases hx; exact hX3
    | 4, hx => cases hx; exact hX4
    | 5, hx => cases hx; exact hX5
    | 6, hx => cases hx; exact hX6
    | 7, hx => cases hx; exact hX7
    | n + 8, hx => cases hx
  · match k, hx with
    | 0, hx => cases hx; exact ⟨fun n z => ⟨fun k h => (by cases h), k0, g0, p0, e0⟩, f0⟩
    | 1, hx => cases hx; exact ⟨fun n z => ⟨fun k h => (by cases h), k1, g1, p1, e1⟩, f1⟩
    | 2, hx => cases hx; exact ⟨fun n z => ⟨fun k h => (by cases h), k2, g2, p2, e2⟩, f2⟩
    | 3, hx => cases hx; exact ⟨fun n z => ⟨fun k h => (by cases h), k3, g3, p3, e3⟩, f3⟩
    | n + 4, hx => cases hx
  · simp only [al_nest, List.mem_cons, List.not_mem_nil, or_false] at hw
    rcases hw with e | e | e | e | e | e | e
    · subst e; exact va_Nw.of rfl (hts _ (List.mem_append_right _ (List.mem_append_left _ (List.mem_of_getElem? (i := 26) rfl))))
    · subst e; exact va_Nw.of rfl (hts _ (List.mem_append_right _ (List.mem_append_left _ (List.mem_of_getElem? (i := 85) rfl))))
    · subst e; exact va_Nw.of rfl (hts _ (List.mem_append_right _ (List.mem_append_left _ (List.mem_of_getElem? (i := 108) rfl))))
    · subst e; exact va_Nw.of rfl (hts _ (List.mem_append_right _ (List.mem_append_left _ (List.mem_of_getElem? (i := 114) rfl))))
    · subst e; exact va_Nw.of rfl (hts _ (List.mem_append_right _ (List.mem_append_left _ (List.mem_of_getElem? (i := 149) rfl))))
    · subst e; exact va_Nw.of rfl (hts _ (List.mem_append_right _ (List.mem_append_left _ (List.mem_of_getElem? (i := 167) rfl))))
    · subst e; exact va_Nw.of rfl (hts _ (List.mem_append_right _ (List.mem_append_left _ (List.mem_of_getElem? (i := 170) rfl))))
theorem lg_goodT {c : Cond} (hc : c ∈ sf_T) : GoodIn lw_tbl (c :: sf_T) := fun w hw => by
  have h : w ∈ sf_T := by
    rcases List.mem_cons.mp hw with e | e
    · rw [e]; exact hc
    · exact e
  exact ⟨(List.mem_filter.mp h).1, sf_T_good h⟩
def sf_σX : sf_St := fun k => if k = 27 then (fun j => if j = 4 then 2147483647 else 0) else if k = 36 then (fun j => if j = 0 then -1 else 0) else if k = 38 then (fun j => if j = 0 then -1 else 0) else fun _ => 0
def sf_σM : sf_St := fun _ _ => 0
def lg_q (h0 : Nat) (r : Nat → Nat) : Nat → Nat
  | 0 => h0
  | k + 1 => r k
theorem lg_grid (q : Nat → Nat) : (fun i => (([some 10, some 11, some 12, some 13, some 14, some 15, some 16] : List (Option Nat)).getD i none).map q) = (fun i => ([some (q 10), some (q 11), some (q 12), some (q 13), some (q 14), some (q 15), some (q 16)] : List (Option Nat)).getD i none) := by
  funext i
  match i with
  | 0 => rfl
  | 1 => rfl
  | 2 => rfl
  | 3 => rfl
  | 4 => rfl
  | 5 => rfl
  | 6 => rfl
  | n + 7 => rfl
theorem lg_ext {a b : va_W} {n : Nat} (ha : a.length = n) (hb : b.length = n) (h : ∀ k, k < n → a[k]? = b[k]?) : a = b := by
  apply List.ext_getElem?
  intro k
  by_cases hk : k < n
  · exact h k hk
  · rw [List.getElem?_eq_none (by omega), List.getElem?_eq_none (by omega)]
set_option maxRecDepth 100000 in
theorem lg_wX (dA : Nat → ClassId) (h0 : Nat) (r : Nat → Nat) : sf_w (lg_q h0 r) dA KX sf_σX = nw_X6 dA h0 r := by
  refine lg_ext (n := 46) (by simp [sf_w]; rfl) rfl (fun k hk => ?_)
  match k, hk with
  | 0, _ => exact (sf_w_at (kd := (4, 6, [some 1, some 17, some 22, some 27, some 36, some 38, some 40, some 43, some 45, none, none])) rfl).trans rfl
  | 1, _ => exact (sf_w_at (kd := (4, 0, [some 2, some 3, some 4, none, some 5, some 6, some 7, some 8, none, some 9])) rfl).trans rfl
  | 2, _ => exact (sf_w_at (kd := (0, 7, [])) rfl).trans rfl
  | 3, _ => exact (sf_w_at (kd := (0, 7, [])) rfl).trans rfl
  | 4, _ => exact (sf_w_at (kd := (0, 7, [])) rfl).trans rfl
  | 5, _ => exact (sf_w_at (kd := (0, 9, [])) rfl).trans rfl
  | 6, _ => exact (sf_w_at (kd := (0, 9, [])) rfl).trans rfl
  | 7, _ => exact (sf_w_at (kd := (0, 9, [])) rfl).trans rfl
  | 8, _ => exact (sf_w_at (kd := (0, 9, [])) rfl).trans rfl
  | 9, _ => exact (sf_w_at (kd := (3, 7, [some 10, some 11, some 12, some 13, some 14, some 15, some 16])) rfl).trans (congrArg (fun f => some (r 8, (.inl (dA 3, 7, .inr (.inr (.inr (.inr f)))) : va_E))) (lg_grid (lg_q h0 r)))
  | 10, _ => exact (sf_w_at (kd := (0, 7, [])) rfl).trans rfl
  | 11, _ => exact (sf_w_at (kd := (0, 7, [])) rfl).trans rfl
  | 12, _ => exact (sf_w_at (kd := (0, 7, [])) rfl).trans rfl
  | 13, _ => exact (sf_w_at (kd := (0, 7, [])) rfl).trans rfl
  | 14, _ => exact (sf_w_at (kd := (0, 7, [])) rfl).trans rfl
  | 15, _ => exact (sf_w_at (kd := (0, 7, [])) rfl).trans rfl
  | 16, _ => exact (sf_w_at (kd := (0, 7, [])) rfl).trans rfl
  | 17, _ => exact (sf_w_at (kd := (4, 4, [some 18, some 19, some 20, some 21])) rfl).trans rfl
  | 18, _ => exact (sf_w_at (kd := (0, 7, [])) rfl).trans rfl
  | 19, _ => exact (sf_w_at (kd := (0, 9, [])) rfl).trans rfl
  | 20, _ => exact (sf_w_at (kd := (1, 9, [])) rfl).trans rfl
  | 21, _ => exact (sf_w_at (kd := (0, 4, [])) rfl).trans rfl
  | 22, _ => exact (sf_w_at (kd := (4, 4, [some 23, some 24, some 25, some 26])) rfl).trans rfl
  | 23, _ => exact (sf_w_at (kd := (0, 7, [])) rfl).trans rfl
  | 24, _ => exact (sf_w_at (kd := (0, 9, [])) rfl).trans rfl
  | 25, _ => exact (sf_w_at (kd := (1, 9, [])) rfl).trans rfl
  | 26, _ => exact (sf_w_at (kd := (0, 4, [])) rfl).trans rfl
  | 27, _ => exact (sf_w_at (kd := (4, 3, [some 28, some 29, some 32, some 35, none])) rfl).trans rfl
  | 28, _ => exact (sf_w_at (kd := (0, 7, [])) rfl).trans rfl
  | 29, _ => exact (sf_w_at (kd := (4, 2, [some 30, some 31])) rfl).trans rfl
  | 30, _ => exact (sf_w_at (kd := (0, 7, [])) rfl).trans rfl
  | 31, _ => exact (sf_w_at (kd := (0, 7, [])) rfl).trans rfl
  | 32, _ => exact (sf_w_at (kd := (4, 2, [some 33, some 34])) rfl).trans rfl
  | 33, _ => exact (sf_w_at (kd := (0, 7, [])) rfl).trans rfl
  | 34, _ => exact (sf_w_at (kd := (0, 7, [])) rfl).trans rfl
  | 35, _ => exact (sf_w_at (kd := (0, 7, [])) rfl).trans rfl
  | 36, _ => exact (sf_w_at (kd := (4, 1, [none, some 37, none])) rfl).trans rfl
  | 37, _ => exact (sf_w_at (kd := (0, 7, [])) rfl).trans rfl
  | 38, _ => exact (sf_w_at (kd := (4, 1, [none, some 39, none])) rfl).trans rfl
  | 39, _ => exact (sf_w_at (kd := (0, 7, [])) rfl).trans rfl
  | 40, _ => exact (sf_w_at (kd := (4, 2, [some 41, some 42])) rfl).trans rfl
  | 41, _ => exact (sf_w_at (kd := (0, 7, [])) rfl).trans rfl
  | 42, _ => exact (sf_w_at (kd := (0, 7, [])) rfl).trans rfl
  | 43, _ => exact (sf_w_at (kd := (4, 5, [some 44, none])) rfl).trans rfl
  | 44, _ => exact (sf_w_at (kd := (2, 80, [])) rfl).trans rfl
  | 45, _ => exact (sf_w_at (kd := (0, 16, [])) rfl).trans rfl
  | n + 46, h => omega
set_option maxRecDepth 100000 in
theorem lg_wM (dA : Nat → ClassId) (h0 : Nat) (r : Nat → Nat) : sf_w (lg_q h0 r) dA KM sf_σM = nw_X7 dA h0 r := by
  refine lg_ext (n := 16) (by simp [sf_w]; rfl) rfl (fun k hk => ?_)
  match k, hk with
  | 0, _ =>
    rw [sf_w_at (k := 0) (kd := (4, 7, [none, some 1, some 2, some 3, none, some 4, some 5, some 6, some 7, some 8, some 9, none, some 10, none, some 11, none, none, some 12, none, none, some 13, some 14, some 15])) rfl]
    simp [sf_ce, sf_fv, sf_σM, nw_X7, lg_q, List.mapIdx_cons]
  | 1, _ => exact (sf_w_at (kd := (0, 7, [])) rfl).trans rfl
  | 2, _ => exact (sf_w_at (kd := (0, 7, [])) rfl).trans rfl
  | 3, _ => exact (sf_w_at (kd := (0, 7, [])) rfl).trans rfl
  | 4, _ => exact (sf_w_at (kd := (0, 9, [])) rfl).trans rfl
  | 5, _ => exact (sf_w_at (kd := (0, 9, [])) rfl).trans rfl
  | 6, _ => exact (sf_w_at (kd := (0, 9, [])) rfl).trans rfl
  | 7, _ => exact (sf_w_at (kd := (0, 9, [])) rfl).trans rfl
  | 8, _ => exact (sf_w_at (kd := (0, 7, [])) rfl).trans rfl
  | 9, _ => exact (sf_w_at (kd := (0, 7, [])) rfl).trans rfl
  | 10, _ => exact (sf_w_at (kd := (0, 7, [])) rfl).trans rfl
  | 11, _ => exact (sf_w_at (kd := (0, 5040, [])) rfl).trans rfl
  | 12, _ => exact (sf_w_at (kd := (0, 7, [])) rfl).trans rfl
  | 13, _ => exact (sf_w_at (kd := (0, 128, [])) rfl).trans rfl
  | 14, _ => exact (sf_w_at (kd := (0, 12, [])) rfl).trans rfl
  | 15, _ => exact (sf_w_at (kd := (0, 16, [])) rfl).trans rfl
  | n + 16, h => omega
set_option maxHeartbeats 4000000 in
set_option maxRecDepth 100000 in
theorem lg_start {p : Program} {e : Env} {s : State} {m : MethodId} {below : List Frame} {meth : Method} {c : Code} (l : Launch) {b L : Nat} {xs : Nat → Int32} (hL : L ≤ 2560) (C0 : lw_At p s m meth c b L xs) {Inv : sf_St → sf_St → Prop} (hI : lg_Inv Inv) (h0 : Inv sf_σX sf_σM) : W p l e room_1 s m #[Value.ref b] below meth c s.heap [] 0 0 (lw_Z below #[Value.ref b] s) (entryFrame m ([Value.ref b] : List Value).toArray 4) := by
  obtain ⟨D, dA, hK, hEN⟩ := lg_known C0.2.2.2.2.2.1
  obtain ⟨tv, ta, tb, hE⟩ := lg_env C0.2.2.2.2.2.1 C0.2.2.2.2.2.2.2.2.2
  have hx := C0.1
  have hb := C0.2.1
  have hml := C0.2.2.2.1
  have hown : s.vm.findClass "StereoFormsLaw" = some m.cls := C0.2.2.2.2.1
  have hts := C0.2.2.2.2.2.1
  have hA : ∀ a : Nat, s.heap.size ≤ a → lg_A s a := fun a h => h
  have hS : va_S (lg_A s) s.heap s.heap [] := va_S.rf
  have hP : va_P D vwCl [] s.heap := fun k q h => by cases h
  have hD : va_D (lg_A s) [] := ⟨fun i j x y h => (by cases h), fun k q h => (by cases h)⟩
  have hl := lv_entry ([.ref b]) (n := 4) (Nat.le_of_ble_eq_true rfl)
  rw [lg_entry_eq]
  generalize (lg_sl ([.ref b]) ++ List.replicate (4 - (lg_sl ([.ref b])).length) Slot.unset).toArray = ls at hl ⊢
  have hl : lv_has ls 4 [(0, .ref b)] := hl
  refine va_new (ci := 6) (fs := [.null, .null, .null, .null, .null, .null, .null, .null, .null, .int 0, .int 0]) (C := RX6) (T := TX6) (N := 11) hx hb hts (fun w h => (List.mem_filter.mp (inX6 w h)).1) tyX6 tyX6_ok hown (hts _ (List.mem_append_right _ (List.mem_append_left _ (List.mem_of_getElem? (i := 16) rfl)))) (hts _ (List.mem_append_right _ (List.mem_append_left _ (List.mem_of_getElem? (i := 17) rfl)))) (hts _ (List.mem_append_right _ (List.mem_append_left _ (List.mem_of_getElem? (i := 1) rfl)))) hK hP hD hS hA rfl (by decide +kernel) (Nat.le_of_ble_eq_true rfl) (Nat.le_of_ble_eq_true rfl) dL_0 (fun aX H hP hD hS => ?_)
  have hP : va_P D vwCl [(aX, .inr (6, [.null, .null, .null, .null, .null, .null, .null, .null, .null, .int 0, .int 0]))] H := hP
  have hD : va_D (lg_A s) [(aX, .inr (6, [.null, .null, .null, .null, .null, .null, .null, .null, .null, .int 0, .int 0]))] := hD
  refine lv_dup hx hb dL_3 rfl ?_
  have hFc := va_free (wc := [(aX, .inr (6, [.null, .null, .null, .null, .null, .null, .null, .null, .null, .int 0, .int 0]))]) hD hS hA [0] rfl
  refine va_callv (va_runI (As := []) (rest := [.ref aX]) ⟨hx, hb, hml, hown, hts⟩ (c_X6_init (dA := dA) aX H.size) (cwI 0 hts (lg_goodT tw_60) rfl rfl rfl (hts _ (List.mem_append_right _ (List.mem_append_left _ (List.mem_of_getElem? (i := 1) rfl)))) (hts _ (List.mem_append_right _ (List.mem_append_left _ (List.mem_of_getElem? (i := 18) rfl)))) (hts _ (List.mem_append_right _ (List.mem_append_left _ (List.mem_of_getElem? (i := 19) rfl)))) rfl hd_X6_init ⟨Nat.le_of_ble_eq_true rfl, Nat.le_of_ble_eq_true rfl⟩) ⟨al_blind, fun U hU hW => ⟨rfl, by rw [hU], by rw [hU]; exact hP, va_K.moved hW.alike hK, hD.weaken (fun _ _ _ _ => trivial), hEN.warm hW⟩⟩ rfl rfl hl.1 rfl (lv_room (Nat.le_of_ble_eq_true rfl)) dL_4 ⟨Nat.le_of_ble_eq_true rfl, Nat.le_of_ble_eq_true rfl⟩) hS (fun q _ h => hFc q h) hFc (fun rX t H1 locs ht hvm _ hB hz1 hk1 hS => ?_)
  obtain ⟨hP1, hD1⟩ := hB
  rw [ht] at hP1
  obtain ⟨hP, hD⟩ := va_join (wr := []) hP hD [0] [] rfl rfl (by decide) (by decide) hk1 hFc hP1 hD1
  rw [List.nil_append] at hP hD
  generalize H1 = H at hP hS ⊢
  refine lv_astore_n (lv' := [(1, .ref aX), (0, .ref b)]) hx hb dL_7 rfl hl (by decide) rfl (fun ls hl => ?_)
  refine va_new (ci := 7) (fs := [.int 0, .null, .null, .null, .int 0, .null, .null, .null, .null, .null, .null, .int 0, .null, .int 0, .null, .int 0, .int 0, .null, .int 0, .int 0, .null, .null, .null]) (C := RX7) (T := TX7) (N := 23) hx hb hts (fun w h => (List.mem_filter.mp (inX7 w h)).1) tyX7 tyX7_ok hown (hts _ (List.mem_append_right _ (List.mem_append_right _ (List.mem_append_right _ (List.mem_append_left _ (List.mem_of_getElem? (i := 105) rfl)))))) (hts _ (List.mem_append_right _ (List.mem_append_right _ (List.mem_append_right _ (List.mem_append_left _ (List.mem_of_getElem? (i := 106) rfl)))))) (hts _ (List.mem_append_right _ (List.mem_append_left _ (List.mem_of_getElem? (i := 8) rfl)))) hK hP hD hS hA rfl (by decide +kernel) (Nat.le_of_ble_eq_true rfl) (Nat.le_of_ble_eq_true rfl) dL_8 (fun aM H hP hD hS => ?_)
  refine lv_dup hx hb dL_11 rfl ?_
  have hPc := hP.sub (ws' := [(aM, .inr (7, [.int 0, .null, .null, .null, .int 0, .null, .null, .null, .null, .null, .null, .int 0, .null, .int 0, .null, .int 0, .int 0, .null, .int 0, .int 0, .null, .null, .null]))]) [46] rfl
  have hDc := hD.sub (ws' := [(aM, .inr (7, [.int 0, .null, .null, .null, .int 0, .null, .null, .null, .null, .null, .null, .int 0, .null, .int 0, .null, .int 0, .int 0, .null, .int 0, .int 0, .null, .null, .null]))]) [46] (by decide) rfl
  have hFc := va_free (wc := [(aM, .inr (7, [.int 0, .null, .null, .null, .int 0, .null, .null, .null, .null, .null, .null, .int 0, .null, .int 0, .null, .int 0, .int 0, .null, .int 0, .int 0, .null, .null, .null]))]) hD hS hA [46] rfl
  refine va_callv (va_runI (As := []) (rest := [.ref aM]) ⟨hx, hb, hml, hown, hts⟩ (c_X7_init (dA := dA) aM H.size) (cwI 0 hts (lg_goodT tw_629) rfl rfl rfl (hts _ (List.mem_append_right _ (List.mem_append_left _ (List.mem_of_getElem? (i := 8) rfl)))) (hts _ (List.mem_append_right _ (List.mem_append_right _ (List.mem_append_right _ (List.mem_append_left _ (List.mem_of_getElem? (i := 107) rfl)))))) (hts _ (List.mem_append_right _ (List.mem_append_right _ (List.mem_append_right _ (List.mem_append_left _ (List.mem_of_getElem? (i := 108) rfl)))))) rfl hd_X7_init ⟨Nat.le_of_ble_eq_true rfl, Nat.le_of_ble_eq_true rfl⟩) ⟨al_blind, fun U hU hW => ⟨rfl, by rw [hU], by rw [hU]; exact hPc, va_K.moved hW.alike hK, hDc.weaken (fun _ _ _ _ => trivial), hEN.warm hW⟩⟩ rfl rfl hl.1 rfl (lv_room (Nat.le_of_ble_eq_true rfl)) dL_12 ⟨Nat.le_of_ble_eq_true rfl, Nat.le_of_ble_eq_true rfl⟩) hS (fun q _ h => hFc q h) hFc (fun rM t H1 locs ht hvm _ hB hz1 hk1 hS => ?_)
  obtain ⟨hP1, hD1⟩ := hB
  rw [ht] at hP1
  obtain ⟨hP, hD⟩ := va_join (wr := nw_X6 dA aX rX) hP hD [46] (List.range 46) rfl rfl (by decide +kernel) (by decide) hk1 hFc hP1 hD1
  generalize H1 = H at hP hS ⊢
  refine lv_astore_n (lv' := [(2, .ref aM), (1, .ref aX), (0, .ref b)]) hx hb dL_15 rfl hl (by decide) rfl (fun ls hl => ?_)
  refine lv_iconst (v := 0) hx hb dL_16 sf_ic_0 ?_
  refine lv_istore_n (lv' := [(3, .int 0), (2, .ref aM), (1, .ref aX), (0, .ref b)]) hx hb dL_17 rfl hl (by decide) rfl (fun ls hl => ?_)
  rw [← lg_wX, ← lg_wM] at hP hD
  have hlX : (sf_w (lg_q aX rX) dA KX sf_σX).length = KX.length := by simp [sf_w]
  have hPX : va_P D vwCl (sf_w (lg_q aX rX) dA KX sf_σX) H := fun k x hx => hP k x (by rw [List.getElem?_append_left (List.getElem?_eq_some_iff.mp hx).1]; exact hx)
  have hPM : va_P D vwCl (sf_w (lg_q aM rM) dA KM sf_σM) H := fun k x hx => hP (KX.length + k) x (by rw [List.getElem?_append_right (by rw [hlX]; omega), hlX, Nat.add_sub_cancel_left]; exact hx)
  have atX : ∀ i, i < KX.length → ∃ e, (sf_w (lg_q aX rX) dA KX sf_σX ++ sf_w (lg_q aM rM) dA KM sf_σM)[i]? = some (lg_q aX rX i, e) := fun i hi => by
    obtain ⟨kd, hkd⟩ : ∃ kd, KX[i]? = some kd := ⟨_, List.getElem?_eq_getElem hi⟩
    exact ⟨_, by rw [List.getElem?_append_left (by rw [hlX]; exact hi)]; exact sf_w_at hkd⟩
  have atM : ∀ i, i < KM.length → ∃ e, (sf_w (lg_q aX rX) dA KX sf_σX ++ sf_w (lg_q aM rM) dA KM sf_σM)[KX.length + i]? = some (lg_q aM rM i, e) := fun i hi => by
    obtain ⟨kd, hkd⟩ : ∃ kd, KM[i]? = some kd := ⟨_, List.getElem?_eq_getElem hi⟩
    exact ⟨_, by rw [List.getElem?_append_right (by rw [hlX]; omega), hlX, Nat.add_sub_cancel_left]; exact sf_w_at hkd⟩
  have geX : ∀ i, i < KX.length → s.heap.size ≤ lg_q aX rX i := fun i hi => by obtain ⟨e, h⟩ := atX i hi; exact hD.2 _ _ h
  have geM : ∀ i, i < KM.length → s.heap.size ≤ lg_q aM rM i := fun i hi => by obtain ⟨e, h⟩ := atM i hi; exact hD.2 _ _ h
  have X : lg_Cx p s m meth c b L xs D (lg_q aX rX) (lg_q aM rM) dA tv ta tb 62 5689 := ⟨C0, hK, ⟨fun i j hi hj hij => by
      obtain ⟨e1, h1⟩ := atX i hi
      obtain ⟨e2, h2⟩ := atX j hj
      exact hD.1 _ _ _ _ h1 h2 hij, fun i j hi hj hij => by
      obtain ⟨e1, h1⟩ := atM i hi
      obtain ⟨e2, h2⟩ := atM j hj
      have := hD.1 _ _ _ _ h1 h2 hij
      omega, fun i j hi hj hij => by
      obtain ⟨e1, h1⟩ := atX i hi
      obtain ⟨e2, h2⟩ := atM j hj
      have := hD.1 _ _ _ _ h1 h2 hij
      omega⟩, ⟨geX, geM⟩, hE _ geX, by decide, by decide⟩
  exact lg_loc (lv' := [(3, .int (nI (5 * 0))), (0, .ref b), (1, .ref (lg_q aX rX 0)), (2, .ref (lg_q aM rM 0))]) [0, 3, 2, 1] rfl (lg_loop X hL hI 2560 0 sf_σX sf_σM h0 (by omega) (by omega)) H _ ls hPX hPM hS hl
