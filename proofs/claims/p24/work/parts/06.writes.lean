set_option maxHeartbeats 4000000 in
set_option maxRecDepth 100000 in
theorem zc_Cal_take (l : Launch) (dC : Nat → ClassId) (dI : Nat → Nat → Nat) (cI cZ cL : ClassId) (h0 a_taken a_day a_kilos : Nat) (sz : Nat) (k_taken : Nat → Int32) (k_day : Nat → Int32) (k_kilos : Nat → Int32) (k_kilosADay : Int32) (p1 : Int32) (p2 : Int32) (p3 : Int32) (P : (Nat → Int32) → (Nat → Int32) → (Nat → Int32) → Prop) (h : zp_Cal_take p1 p2 p3 k_taken k_day k_kilos P) : Met l y_Cal_take w_Cal_take ({ frames := 0, cells := 0, slots := 0, locals := 0 }) (va_Pc [.ref h0, .int p1, .int p2, .int p3] (fun U => U.heap.size = sz ∧ va_P (dC, dI) vwCl [(h0, .inr (1, [.ref a_taken, .ref a_day, .ref a_kilos, .int k_kilosADay])), (a_taken, .inl (cZ, 60, .inl k_taken)), (a_day, .inl (cI, 60, .inl k_day)), (a_kilos, .inl (cI, 60, .inl k_kilos))] U.heap ∧ va_K (dC, dI) vwCl [(cI, .int), (cZ, .boolean), (cL, .long)] U ∧ va_D (fun _ => True) [(h0, .inr (1, [.ref a_taken, .ref a_day, .ref a_kilos, .int k_kilosADay])), (a_taken, .inl (cZ, 60, .inl k_taken)), (a_day, .inl (cI, 60, .inl k_day)), (a_kilos, .inl (cI, 60, .inl k_kilos))] ∧ zn_ok U)) (va_Qv (fun (u : (Nat → Int32) × (Nat → Int32) × (Nat → Int32)) => P u.1 u.2.1 u.2.2) (fun u t => va_P (dC, dI) vwCl [(h0, .inr (1, [.ref a_taken, .ref a_day, .ref a_kilos, .int k_kilosADay])), (a_taken, .inl (cZ, 60, .inl u.1)), (a_day, .inl (cI, 60, .inl u.2.1)), (a_kilos, .inl (cI, 60, .inl u.2.2))] t.heap ∧ va_D (va_A [(h0, .inr (1, [.ref a_taken, .ref a_day, .ref a_kilos, .int k_kilosADay])), (a_taken, .inl (cZ, 60, .inl k_taken)), (a_day, .inl (cI, 60, .inl k_day)), (a_kilos, .inl (cI, 60, .inl k_kilos))] sz) [(h0, .inr (1, [.ref a_taken, .ref a_day, .ref a_kilos, .int k_kilosADay])), (a_taken, .inl (cZ, 60, .inl u.1)), (a_day, .inl (cI, 60, .inl u.2.1)), (a_kilos, .inl (cI, 60, .inl u.2.2))]) (va_A [(h0, .inr (1, [.ref a_taken, .ref a_day, .ref a_kilos, .int k_kilosADay])), (a_taken, .inl (cZ, 60, .inl k_taken)), (a_day, .inl (cI, 60, .inl k_day)), (a_kilos, .inl (cI, 60, .inl k_kilos))] sz)) 0 0 (va_A [(h0, .inr (1, [.ref a_taken, .ref a_day, .ref a_kilos, .int k_kilosADay])), (a_taken, .inl (cZ, 60, .inl k_taken)), (a_day, .inl (cI, 60, .inl k_day)), (a_kilos, .inl (cI, 60, .inl k_kilos))] sz) := by
  refine Met.ofW (cc := b_Cal_take) (maxL := 4) (ret := none) (by decide) rfl ?_
  intro p e s m args below meth c s₁ B hml hv
  obtain ⟨rfl, hsz, hP, hK, hD0, hN⟩ := hv
  have hx := B.exec
  have hb := B.bytes
  have hr := B.returns
  have hts0 := atoms_spec (ws := w_Cal_take) B.pre
  have hts : ∀ w ∈ zw_T, w.before ([.ref h0, .int p1, .int p2, .int p3] : List Value).toArray s = true := fun w h => hts0 w (List.mem_cons_of_mem _ h)
  have hown : s.vm.findClass R_Cal = some m.cls := findClass_of_methodNamed B.named
  have hlocks := B.notSynchronized
  subst hsz
  have hD := hD0.self (sz := s.heap.size)
  generalize hAe : va_A [(h0, .inr (1, [.ref a_taken, .ref a_day, .ref a_kilos, .int k_kilosADay])), (a_taken, .inl (cZ, 60, .inl k_taken)), (a_day, .inl (cI, 60, .inl k_day)), (a_kilos, .inl (cI, 60, .inl k_kilos))] s.heap.size = A at hD ⊢
  have hA : ∀ q : Nat, s.heap.size ≤ q → A q := fun q h => by rw [← hAe]; exact Or.inr h
  have hS : va_S A s.heap s.heap [] := va_S.rf
  have hl := lv_entry ([.ref h0, .int p1, .int p2, .int p3]) (n := 4) (Nat.le_of_ble_eq_true rfl)
  rw [lg_entry_eq]
  generalize (lg_sl ([.ref h0, .int p1, .int p2, .int p3]) ++ List.replicate (4 - (lg_sl ([.ref h0, .int p1, .int p2, .int p3])).length) Slot.unset).toArray = ls at hl ⊢
  have hl : lv_has ls 4 [(0, .ref h0), (1, .int p1), (2, .int p2), (3, .int p3)] := hl
  unfold zp_Cal_take at h
  refine lv_aload_n hx hb d_Cal_take_0 rfl (lv_at hl 0 rfl) ?_
  refine va_get (D := (dC, dI)) (ci := 1) (v := .ref a_taken) (C := R_Cal) (T := F_Cal) (N := 4) hx hb hts zl_Cal hown hK hP 0 rfl rfl 0 (by decide) (hts _ zw_0) (fun _ h9 => h9) rfl d_Cal_take_1 ?_
  refine lv_iload_n hx hb d_Cal_take_4 rfl (lv_at hl 1 rfl) ?_
  refine lv_iconst (v := 1) hx hb d_Cal_take_5 (by decide) ?_
  refine va_zast hx hb hK hP hD hS 1 1 rfl rfl h.1 d_Cal_take_6 (fun H locs hP hD hS => ?_)
  have h := h.2
  have hP : va_P (dC, dI) vwCl [(h0, .inr (1, [.ref a_taken, .ref a_day, .ref a_kilos, .int k_kilosADay])), (a_taken, .inl (cZ, 60, .inl (upd k_taken p1.toNatClampNeg (vp_nar .boolean 1)))), (a_day, .inl (cI, 60, .inl k_day)), (a_kilos, .inl (cI, 60, .inl k_kilos))] H := hP
  have hD : va_D A [(h0, .inr (1, [.ref a_taken, .ref a_day, .ref a_kilos, .int k_kilosADay])), (a_taken, .inl (cZ, 60, .inl (upd k_taken p1.toNatClampNeg (vp_nar .boolean 1)))), (a_day, .inl (cI, 60, .inl k_day)), (a_kilos, .inl (cI, 60, .inl k_kilos))] := hD
  refine lv_aload_n hx hb d_Cal_take_7 rfl (lv_at hl 0 rfl) ?_
  refine va_get (D := (dC, dI)) (ci := 1) (v := .ref a_day) (C := R_Cal) (T := F_Cal) (N := 4) hx hb hts zl_Cal hown hK hP 0 rfl rfl 1 (by decide) (hts _ zw_1) (fun _ h9 => h9) rfl d_Cal_take_8 ?_
  refine lv_iload_n hx hb d_Cal_take_11 rfl (lv_at hl 1 rfl) ?_
  refine lv_iload_n hx hb d_Cal_take_12 rfl (lv_at hl 2 rfl) ?_
  refine va_iast hx hb hK hP hD hS 2 0 rfl rfl h.1 d_Cal_take_13 (fun H locs hP hD hS => ?_)
  have h := h.2
  have hP : va_P (dC, dI) vwCl [(h0, .inr (1, [.ref a_taken, .ref a_day, .ref a_kilos, .int k_kilosADay])), (a_taken, .inl (cZ, 60, .inl (upd k_taken p1.toNatClampNeg (vp_nar .boolean 1)))), (a_day, .inl (cI, 60, .inl (upd k_day p1.toNatClampNeg p2))), (a_kilos, .inl (cI, 60, .inl k_kilos))] H := hP
  have hD : va_D A [(h0, .inr (1, [.ref a_taken, .ref a_day, .ref a_kilos, .int k_kilosADay])), (a_taken, .inl (cZ, 60, .inl (upd k_taken p1.toNatClampNeg (vp_nar .boolean 1)))), (a_day, .inl (cI, 60, .inl (upd k_day p1.toNatClampNeg p2))), (a_kilos, .inl (cI, 60, .inl k_kilos))] := hD
  refine lv_aload_n hx hb d_Cal_take_14 rfl (lv_at hl 0 rfl) ?_
  refine va_get (D := (dC, dI)) (ci := 1) (v := .ref a_kilos) (C := R_Cal) (T := F_Cal) (N := 4) hx hb hts zl_Cal hown hK hP 0 rfl rfl 2 (by decide) (hts _ zw_2) (fun _ h9 => h9) rfl d_Cal_take_15 ?_
  refine lv_iload_n hx hb d_Cal_take_18 rfl (lv_at hl 1 rfl) ?_
  refine lv_iload_n hx hb d_Cal_take_19 rfl (lv_at hl 3 rfl) ?_
  refine va_iast hx hb hK hP hD hS 3 0 rfl rfl h.1 d_Cal_take_20 (fun H locs hP hD hS => ?_)
  have h := h.2
  have hP : va_P (dC, dI) vwCl [(h0, .inr (1, [.ref a_taken, .ref a_day, .ref a_kilos, .int k_kilosADay])), (a_taken, .inl (cZ, 60, .inl (upd k_taken p1.toNatClampNeg (vp_nar .boolean 1)))), (a_day, .inl (cI, 60, .inl (upd k_day p1.toNatClampNeg p2))), (a_kilos, .inl (cI, 60, .inl (upd k_kilos p1.toNatClampNeg p3)))] H := hP
  have hD : va_D A [(h0, .inr (1, [.ref a_taken, .ref a_day, .ref a_kilos, .int k_kilosADay])), (a_taken, .inl (cZ, 60, .inl (upd k_taken p1.toNatClampNeg (vp_nar .boolean 1)))), (a_day, .inl (cI, 60, .inl (upd k_day p1.toNatClampNeg p2))), (a_kilos, .inl (cI, 60, .inl (upd k_kilos p1.toNatClampNeg p3)))] := hD
  have hP9 := hP.sub (ws' := [(h0, .inr (1, [.ref a_taken, .ref a_day, .ref a_kilos, .int k_kilosADay])), (a_taken, .inl (cZ, 60, .inl (upd k_taken p1.toNatClampNeg (vp_nar .boolean 1)))), (a_day, .inl (cI, 60, .inl (upd k_day p1.toNatClampNeg p2))), (a_kilos, .inl (cI, 60, .inl (upd k_kilos p1.toNatClampNeg p3)))]) [0, 1, 2, 3] rfl
  have hD9 := hD.sub (ws' := [(h0, .inr (1, [.ref a_taken, .ref a_day, .ref a_kilos, .int k_kilosADay])), (a_taken, .inl (cZ, 60, .inl (upd k_taken p1.toNatClampNeg (vp_nar .boolean 1)))), (a_day, .inl (cI, 60, .inl (upd k_day p1.toNatClampNeg p2))), (a_kilos, .inl (cI, 60, .inl (upd k_kilos p1.toNatClampNeg p3)))]) [0, 1, 2, 3] (by decide) rfl
  exact W.vret hx hb hr (fun t ht hW => ⟨⟨(upd k_taken p1.toNatClampNeg (vp_nar .boolean 1), upd k_day p1.toNatClampNeg p2, upd k_kilos p1.toNatClampNeg p3), rfl, h, by rw [ht]; exact hP9, hD9⟩, hS.F ht⟩) hS.2.2 d_Cal_take_21
set_option maxHeartbeats 4000000 in
set_option maxRecDepth 100000 in
theorem zc_Chg_add (l : Launch) (dC : Nat → ClassId) (dI : Nat → Nat → Nat) (cI cZ cL : ClassId) (h0 a_field a_value a_from a_told a_count : Nat) (sz : Nat) (k_field : Nat → Int32) (k_value : Nat → Int32) (k_from : Nat → Int32) (k_told : Nat → Int32) (k_count : Nat → Int32) (p1 : Int32) (p2 : Int32) (p3 : Int32) (p4 : Int32) (p5 : Int32) (P : (Nat → Int32) → (Nat → Int32) → (Nat → Int32) → (Nat → Int32) → (Nat → Int32) → Prop) (h : zp_Chg_add p1 p2 p3 p4 p5 k_field k_value k_from k_told k_count P) : Met l y_Chg_add w_Chg_add ({ frames := 0, cells := 0, slots := 0, locals := 0 }) (va_Pc [.ref h0, .int p1, .int p2, .int p3, .int p4, .int p5] (fun U => U.heap.size = sz ∧ va_P (dC, dI) vwCl [(h0, .inr (2, [.ref a_field, .ref a_value, .ref a_from, .ref a_told, .ref a_count])), (a_field, .inl (cI, 1200, .inl k_field)), (a_value, .inl (cI, 1200, .inl k_value)), (a_from, .inl (cI, 1200, .inl k_from)), (a_told, .inl (cI, 1200, .inl k_told)), (a_count, .inl (cI, 60, .inl k_count))] U.heap ∧ va_K (dC, dI) vwCl [(cI, .int), (cZ, .boolean), (cL, .long)] U ∧ va_D (fun _ => True) [(h0, .inr (2, [.ref a_field, .ref a_value, .ref a_from, .ref a_told, .ref a_count])), (a_field, .inl (cI, 1200, .inl k_field)), (a_value, .inl (cI, 1200, .inl k_value)), (a_from, .inl (cI, 1200, .inl k_from)), (a_told, .inl (cI, 1200, .inl k_told)), (a_count, .inl (cI, 60, .inl k_count))] ∧ zn_ok U)) (va_Qv (fun (u : (Nat → Int32) × (Nat → Int32) × (Nat → Int32) × (Nat → Int32) × (Nat → Int32)) => P u.1 u.2.1 u.2.2.1 u.2.2.2.1 u.2.2.2.2) (fun u t => va_P (dC, dI) vwCl [(h0, .inr (2, [.ref a_field, .ref a_value, .ref a_from, .ref a_told, .ref a_count])), (a_field, .inl (cI, 1200, .inl u.1)), (a_value, .inl (cI, 1200, .inl u.2.1)), (a_from, .inl (cI, 1200, .inl u.2.2.1)), (a_told, .inl (cI, 1200, .inl u.2.2.2.1)), (a_count, .inl (cI, 60, .inl u.2.2.2.2))] t.heap ∧ va_D (va_A [(h0, .inr (2, [.ref a_field, .ref a_value, .ref a_from, .ref a_told, .ref a_count])), (a_field, .inl (cI, 1200, .inl k_field)), (a_value, .inl (cI, 1200, .inl k_value)), (a_from, .inl (cI, 1200, .inl k_from)), (a_told, .inl (cI, 1200, .inl k_told)), (a_count, .inl (cI, 60, .inl k_count))] sz) [(h0, .inr (2, [.ref a_field, .ref a_value, .ref a_from, .ref a_told, .ref a_count])), (a_field, .inl (cI, 1200, .inl u.1)), (a_value, .inl (cI, 1200, .inl u.2.1)), (a_from, .inl (cI, 1200, .inl u.2.2.1)), (a_told, .inl (cI, 1200, .inl u.2.2.2.1)), (a_count, .inl (cI, 60, .inl u.2.2.2.2))]) (va_A [(h0, .inr (2, [.ref a_field, .ref a_value, .ref a_from, .ref a_told, .ref a_count])), (a_field, .inl (cI, 1200, .inl k_field)), (a_value, .inl (cI, 1200, .inl k_value)), (a_from, .inl (cI, 1200, .inl k_from)), (a_told, .inl (cI, 1200, .inl k_told)), (a_count, .inl (cI, 60, .inl k_count))] sz)) 0 0 (va_A [(h0, .inr (2, [.ref a_field, .ref a_value, .ref a_from, .ref a_told, .ref a_count])), (a_field, .inl (cI, 1200, .inl k_field)), (a_value, .inl (cI, 1200, .inl k_value)), (a_from, .inl (cI, 1200, .inl k_from)), (a_told, .inl (cI, 1200, .inl k_told)), (a_count, .inl (cI, 60, .inl k_count))] sz) := by
  refine Met.ofW (cc := b_Chg_add) (maxL := 7) (ret := none) (by decide) rfl ?_
  intro p e s m args below meth c s₁ B hml hv
  obtain ⟨rfl, hsz, hP, hK, hD0, hN⟩ := hv
  have hx := B.exec
  have hb := B.bytes
  have hr := B.returns
  have hts0 := atoms_spec (ws := w_Chg_add) B.pre
  have hts : ∀ w ∈ zw_T, w.before ([.ref h0, .int p1, .int p2, .int p3, .int p4, .int p5] : List Value).toArray s = true := fun w h => hts0 w (List.mem_cons_of_mem _ h)
  have hown : s.vm.findClass R_Chg = some m.cls := findClass_of_methodNamed B.named
  have hlocks := B.notSynchronized
  subst hsz
  have hD := hD0.self (sz := s.heap.size)
  generalize hAe : va_A [(h0, .inr (2, [.ref a_field, .ref a_value, .ref a_from, .ref a_told, .ref a_count])), (a_field, .inl (cI, 1200, .inl k_field)), (a_value, .inl (cI, 1200, .inl k_value)), (a_from, .inl (cI, 1200, .inl k_from)), (a_told, .inl (cI, 1200, .inl k_told)), (a_count, .inl (cI, 60, .inl k_count))] s.heap.size = A at hD ⊢
  have hA : ∀ q : Nat, s.heap.size ≤ q → A q := fun q h => by rw [← hAe]; exact Or.inr h
  have hS : va_S A s.heap s.heap [] := va_S.rf
  have hl := lv_entry ([.ref h0, .int p1, .int p2, .int p3, .int p4, .int p5]) (n := 7) (Nat.le_of_ble_eq_true rfl)
  rw [lg_entry_eq]
  generalize (lg_sl ([.ref h0, .int p1, .int p2, .int p3, .int p4, .int p5]) ++ List.replicate (7 - (lg_sl ([.ref h0, .int p1, .int p2, .int p3, .int p4, .int p5])).length) Slot.unset).toArray = ls at hl ⊢
  have hl : lv_has ls 7 [(0, .ref h0), (1, .int p1), (2, .int p2), (3, .int p3), (4, .int p4), (5, .int p5)] := hl
  unfold zp_Chg_add at h
  refine lv_iload_n hx hb d_Chg_add_0 rfl (lv_at hl 1 rfl) ?_
  refine lv_bipush (v := 20) hx hb d_Chg_add_1 (by decide) ?_
  refine lv_imul hx hb d_Chg_add_3 ?_
  refine lv_aload_n hx hb d_Chg_add_4 rfl (lv_at hl 0 rfl) ?_
  refine va_get (D := (dC, dI)) (ci := 2) (v := .ref a_count) (C := R_Chg) (T := F_Chg) (N := 5) hx hb hts zl_Chg hown hK hP 0 rfl rfl 4 (by decide) (hts _ zw_9) (fun _ h9 => h9) rfl d_Chg_add_5 ?_
  refine lv_iload_n hx hb d_Chg_add_8 rfl (lv_at hl 1 rfl) ?_
  refine va_iald hx hb hK hP 5 0 rfl rfl h.1 d_Chg_add_9 ?_
  have h := h.2
  refine lv_iadd hx hb d_Chg_add_10 ?_
  refine lv_topi (fun y1 ey1 => ?_)
  have h := h y1 ey1
  refine lv_istore (lv' := [(6, .int y1), (0, .ref h0), (1, .int p1), (2, .int p2), (3, .int p3), (4, .int p4), (5, .int p5)]) hx hb d_Chg_add_11 hl (by decide) rfl (fun ls hl => ?_)
  refine lv_aload_n hx hb d_Chg_add_13 rfl (lv_at hl 1 rfl) ?_
  refine va_get (D := (dC, dI)) (ci := 2) (v := .ref a_field) (C := R_Chg) (T := F_Chg) (N := 5) hx hb hts zl_Chg hown hK hP 0 rfl rfl 0 (by decide) (hts _ zw_13) (fun _ h9 => h9) rfl d_Chg_add_14 ?_
  refine lv_iload hx hb d_Chg_add_17 (lv_at hl 0 rfl) ?_
  refine lv_iload_n hx hb d_Chg_add_19 rfl (lv_at hl 3 rfl) ?_
  refine va_iast hx hb hK hP hD hS 1 0 rfl rfl h.1 d_Chg_add_20 (fun H locs hP hD hS => ?_)
  have h := h.2
  have hP : va_P (dC, dI) vwCl [(h0, .inr (2, [.ref a_field, .ref a_value, .ref a_from, .ref a_told, .ref a_count])), (a_field, .inl (cI, 1200, .inl (upd k_field y1.toNatClampNeg p2))), (a_value, .inl (cI, 1200, .inl k_value)), (a_from, .inl (cI, 1200, .inl k_from)), (a_told, .inl (cI, 1200, .inl k_told)), (a_count, .inl (cI, 60, .inl k_count))] H := hP
  have hD : va_D A [(h0, .inr (2, [.ref a_field, .ref a_value, .ref a_from, .ref a_told, .ref a_count])), (a_field, .inl (cI, 1200, .inl (upd k_field y1.toNatClampNeg p2))), (a_value, .inl (cI, 1200, .inl k_value)), (a_from, .inl (cI, 1200, .inl k_from)), (a_told, .inl (cI, 1200, .inl k_told)), (a_count, .inl (cI, 60, .inl k_count))] := hD
  refine lv_aload_n hx hb d_Chg_add_21 rfl (lv_at hl 1 rfl) ?_
  refine va_get (D := (dC, dI)) (ci := 2) (v := .ref a_value) (C := R_Chg) (T := F_Chg) (N := 5) hx hb hts zl_Chg hown hK hP 0 rfl rfl 1 (by decide) (hts _ zw_14) (fun _ h9 => h9) rfl d_Chg_add_22 ?_
  refine lv_iload hx hb d_Chg_add_25 (lv_at hl 0 rfl) ?_
  refine lv_iload_n hx hb d_Chg_add_27 rfl (lv_at hl 4 rfl) ?_
  refine va_iast hx hb hK hP hD hS 2 0 rfl rfl h.1 d_Chg_add_28 (fun H locs hP hD hS => ?_)
  have h := h.2
  have hP : va_P (dC, dI) vwCl [(h0, .inr (2, [.ref a_field, .ref a_value, .ref a_from, .ref a_told, .ref a_count])), (a_field, .inl (cI, 1200, .inl (upd k_field y1.toNatClampNeg p2))), (a_value, .inl (cI, 1200, .inl (upd k_value y1.toNatClampNeg p3))), (a_from, .inl (cI, 1200, .inl k_from)), (a_told, .inl (cI, 1200, .inl k_told)), (a_count, .inl (cI, 60, .inl k_count))] H := hP
  have hD : va_D A [(h0, .inr (2, [.ref a_field, .ref a_value, .ref a_from, .ref a_told, .ref a_count])), (a_field, .inl (cI, 1200, .inl (upd k_field y1.toNatClampNeg p2))), (a_value, .inl (cI, 1200, .inl (upd k_value y1.toNatClampNeg p3))), (a_from, .inl (cI, 1200, .inl k_from)), (a_told, .inl (cI, 1200, .inl k_told)), (a_count, .inl (cI, 60, .inl k_count))] := hD
  refine lv_aload_n hx hb d_Chg_add_29 rfl (lv_at hl 1 rfl) ?_
  refine va_get (D := (dC, dI)) (ci := 2) (v := .ref a_from) (C := R_Chg) (T := F_Chg) (N := 5) hx hb hts zl_Chg hown hK hP 0 rfl rfl 2 (by decide) (hts _ zw_15) (fun _ h9 => h9) rfl d_Chg_add_30 ?_
  refine lv_iload hx hb d_Chg_add_33 (lv_at hl 0 rfl) ?_
  refine lv_iload hx hb d_Chg_add_35 (lv_at hl 5 rfl) ?_
  refine va_iast hx hb hK hP hD hS 3 0 rfl rfl h.1 d_Chg_add_37 (fun H locs hP hD hS => ?_)
  have h := h.2
  have hP : va_P (dC, dI) vwCl [(h0, .inr (2, [.ref a_field, .ref a_value, .ref a_from, .ref a_told, .ref a_count])), (a_field, .inl (cI, 1200, .inl (upd k_field y1.toNatClampNeg p2))), (a_value, .inl (cI, 1200, .inl (upd k_value y1.toNatClampNeg p3))), (a_from, .inl (cI, 1200, .inl (upd k_from y1.toNatClampNeg p4))), (a_told, .inl (cI, 1200, .inl k_told)), (a_count, .inl (cI, 60, .inl k_count))] H := hP
  have hD : va_D A [(h0, .inr (2, [.ref a_field, .ref a_value, .ref a_from, .ref a_told, .ref a_count])), (a_field, .inl (cI, 1200, .inl (upd k_field y1.toNatClampNeg p2))), (a_value, .inl (cI, 1200, .inl (upd k_value y1.toNatClampNeg p3))), (a_from, .inl (cI, 1200, .inl (upd k_from y1.toNatClampNeg p4))), (a_told, .inl (cI, 1200, .inl k_told)), (a_count, .inl (cI, 60, .inl k_count))] := hD
  refine lv_aload_n hx hb d_Chg_add_38 rfl (lv_at hl 1 rfl) ?_
  refine va_get (D := (dC, dI)) (ci := 2) (v := .ref a_told) (C := R_Chg) (T := F_Chg) (N := 5) hx hb hts zl_Chg hown hK hP 0 rfl rfl 3 (by decide) (hts _ zw_16) (fun _ h9 => h9) rfl d_Chg_add_39 ?_
  refine lv_iload hx hb d_Chg_add_42 (lv_at hl 0 rfl) ?_
  refine lv_iload hx hb d_Chg_add_44 (lv_at hl 6 rfl) ?_
  refine va_iast hx hb hK hP hD hS 4 0 rfl rfl h.1 d_Chg_add_46 (fun H locs hP hD hS => ?_)
  have h := h.2
  have hP : va_P (dC, dI) vwCl [(h0, .inr (2, [.ref a_field, .ref a_value, .ref a_from, .ref a_told, .ref a_count])), (a_field, .inl (cI, 1200, .inl (upd k_field y1.toNatClampNeg p2))), (a_value, .inl (cI, 1200, .inl (upd k_value y1.toNatClampNeg p3))), (a_from, .inl (cI, 1200, .inl (upd k_from y1.toNatClampNeg p4))), (a_told, .inl (cI, 1200, .inl (upd k_told y1.toNatClampNeg p5))), (a_count, .inl (cI, 60, .inl k_count))] H := hP
  have hD : va_D A [(h0, .inr (2, [.ref a_field, .ref a_value, .ref a_from, .ref a_told, .ref a_count])), (a_field, .inl (cI, 1200, .inl (upd k_field y1.toNatClampNeg p2))), (a_value, .inl (cI, 1200, .inl (upd k_value y1.toNatClampNeg p3))), (a_from, .inl (cI, 1200, .inl (upd k_from y1.toNatClampNeg p4))), (a_told, .inl (cI, 1200, .inl (upd k_told y1.toNatClampNeg p5))), (a_count, .inl (cI, 60, .inl k_count))] := hD
  refine lv_aload_n hx hb d_Chg_add_47 rfl (lv_at hl 1 rfl) ?_
  refine va_get (D := (dC, dI)) (ci := 2) (v := .ref a_count) (C := R_Chg) (T := F_Chg) (N := 5) hx hb hts zl_Chg hown hK hP 0 rfl rfl 4 (by decide) (hts _ zw_9) (fun _ h9 => h9) rfl d_Chg_add_48 ?_
  refine lv_iload_n hx hb d_Chg_add_51 rfl (lv_at hl 2 rfl) ?_
  refine lv_dup2_11 hx hb d_Chg_add_52 rfl rfl ?_
  refine va_iald hx hb hK hP 5 0 rfl rfl h.1 d_Chg_add_53 ?_
  have h := h.2
  refine lv_iconst (v := 1) hx hb d_Chg_add_54 (by decide) ?_
  refine lv_iadd hx hb d_Chg_add_55 ?_
  refine va_iast hx hb hK hP hD hS 5 0 rfl rfl h.1 d_Chg_add_56 (fun H locs hP hD hS => ?_)
  have h := h.2
  have hP : va_P (dC, dI) vwCl [(h0, .inr (2, [.ref a_field, .ref a_value, .ref a_from, .ref a_told, .ref a_count])), (a_field, .inl (cI, 1200, .inl (upd k_field y1.toNatClampNeg p2))), (a_value, .inl (cI, 1200, .inl (upd k_value y1.toNatClampNeg p3))), (a_from, .inl (cI, 1200, .inl (upd k_from y1.toNatClampNeg p4))), (a_told, .inl (cI, 1200, .inl (upd k_told y1.toNatClampNeg p5))), (a_count, .inl (cI, 60, .inl (upd k_count p1.toNatClampNeg ((k_count p1.toNatClampNeg) + 1))))] H := hP
  have hD : va_D A [(h0, .inr (2, [.ref a_field, .ref a_value, .ref a_from, .ref a_told, .ref a_count])), (a_field, .inl (cI, 1200, .inl (upd k_field y1.toNatClampNeg p2))), (a_value, .inl (cI, 1200, .inl (upd k_value y1.toNatClampNeg p3))), (a_from, .inl (cI, 1200, .inl (upd k_from y1.toNatClampNeg p4))), (a_told, .inl (cI, 1200, .inl (upd k_told y1.toNatClampNeg p5))), (a_count, .inl (cI, 60, .inl (upd k_count p1.toNatClampNeg ((k_count p1.toNatClampNeg) + 1))))] := hD
  have hP9 := hP.sub (ws' := [(h0, .inr (2, [.ref a_field, .ref a_value, .ref a_from, .ref a_told, .ref a_count])), (a_field, .inl (cI, 1200, .inl (upd k_field y1.toNatClampNeg p2))), (a_value, .inl (cI, 1200, .inl (upd k_value y1.toNatClampNeg p3))), (a_from, .inl (cI, 1200, .inl (upd k_from y1.toNatClampNeg p4))), (a_told, .inl (cI, 1200, .inl (upd k_told y1.toNatClampNeg p5))), (a_count, .inl (cI, 60, .inl (upd k_count p1.toNatClampNeg ((k_count p1.toNatClampNeg) + 1))))]) [0, 1, 2, 3, 4, 5] rfl
  have hD9 := hD.sub (ws' := [(h0, .inr (2, [.ref a_field, .ref a_value, .ref a_from, .ref a_told, .ref a_count])), (a_field, .inl (cI, 1200, .inl (upd k_field y1.toNatClampNeg p2))), (a_value, .inl (cI, 1200, .inl (upd k_value y1.toNatClampNeg p3))), (a_from, .inl (cI, 1200, .inl (upd k_from y1.toNatClampNeg p4))), (a_told, .inl (cI, 1200, .inl (upd k_told y1.toNatClampNeg p5))), (a_count, .inl (cI, 60, .inl (upd k_count p1.toNatClampNeg ((k_count p1.toNatClampNeg) + 1))))]) [0, 1, 2, 3, 4, 5] (by decide) rfl
  exact W.vret hx hb hr (fun t ht hW => ⟨⟨(upd k_field y1.toNatClampNeg p2, upd k_value y1.toNatClampNeg p3, upd k_from y1.toNatClampNeg p4, upd k_told y1.toNatClampNeg p5, upd k_count p1.toNatClampNeg ((k_count p1.toNatClampNeg) + 1)), rfl, h, by rw [ht]; exact hP9, hD9⟩, hS.F ht⟩) hS.2.2 d_Chg_add_57
set_option maxHeartbeats 4000000 in
set_option maxRecDepth 100000 in
theorem zc_Itm_add (l : Launch) (dC : Nat → ClassId) (dI : Nat → Nat → Nat) (cI cZ cL : ClassId) (h0 a_orderOf a_agreedRule a_first : Nat) (sz : Nat) (k_orderOf : Nat → Int32) (k_count : Int32) (p1 : Int32) (P : Int32 → (Nat → Int32) → Int32 → Prop) (h : zp_Itm_add p1 k_orderOf k_count P) : Met l y_Itm_add w_Itm_add ({ frames := 0, cells := 0, slots := 0, locals := 0 }) (va_Pc [.ref h0, .int p1] (fun U => U.heap.size = sz ∧ va_P (dC, dI) vwCl [(h0, .inr (3, [.ref a_orderOf, .ref a_agreedRule, .ref a_first, .int k_count])), (a_orderOf, .inl (cI, 60, .inl k_orderOf))] U.heap ∧ va_K (dC, dI) vwCl [(cI, .int), (cZ, .boolean), (cL, .long)] U ∧ va_D (fun _ => True) [(h0, .inr (3, [.ref a_orderOf, .ref a_agreedRule, .ref a_first, .int k_count])), (a_orderOf, .inl (cI, 60, .inl k_orderOf))] ∧ zn_ok U)) (va_Qi (fun (r : Int32) (u : (Nat → Int32) × Int32) => P r u.1 u.2) (fun u t => va_P (dC, dI) vwCl [(h0, .inr (3, [.ref a_orderOf, .ref a_agreedRule, .ref a_first, .int u.2])), (a_orderOf, .inl (cI, 60, .inl u.1))] t.heap ∧ va_D (va_A [(h0, .inr (3, [.ref a_orderOf, .ref a_agreedRule, .ref a_first, .int k_count])), (a_orderOf, .inl (cI, 60, .inl k_orderOf))] sz) [(h0, .inr (3, [.ref a_orderOf, .ref a_agreedRule, .ref a_first, .int u.2])), (a_orderOf, .inl (cI, 60, .inl u.1))]) (va_A [(h0, .inr (3, [.ref a_orderOf, .ref a_agreedRule, .ref a_first, .int k_count])), (a_orderOf, .inl (cI, 60, .inl k_orderOf))] sz)) 0 0 (va_A [(h0, .inr (3, [.ref a_orderOf, .ref a_agreedRule, .ref a_first, .int k_count])), (a_orderOf, .inl (cI, 60, .inl k_orderOf))] sz) := by
  refine Met.ofW (cc := b_Itm_add) (maxL := 3) (ret := (some .int)) (by decide) rfl ?_
  intro p e s m args below meth c s₁ B hml hv
  obtain ⟨rfl, hsz, hP, hK, hD0, hN⟩ := hv
  have hx := B.exec
  have hb := B.bytes
  have hr := B.returns
  have hts0 := atoms_spec (ws := w_Itm_add) B.pre
  have hts : ∀ w ∈ zw_T, w.before ([.ref h0, .int p1] : List Value).toArray s = true := fun w h => hts0 w (List.mem_cons_of_mem _ h)
  have hown : s.vm.findClass R_Itm = some m.cls := findClass_of_methodNamed B.named
  have hlocks := B.notSynchronized
  subst hsz
  have hD := hD0.self (sz := s.heap.size)
  generalize hAe : va_A [(h0, .inr (3, [.ref a_orderOf, .ref a_agreedRule, .ref a_first, .int k_count])), (a_orderOf, .inl (cI, 60, .inl k_orderOf))] s.heap.size = A at hD ⊢
  have hA : ∀ q : Nat, s.heap.size ≤ q → A q := fun q h => by rw [← hAe]; exact Or.inr h
  have hS : va_S A s.heap s.heap [] := va_S.rf
  have hl := lv_entry ([.ref h0, .int p1]) (n := 3) (Nat.le_of_ble_eq_true rfl)
  rw [lg_entry_eq]
  generalize (lg_sl ([.ref h0, .int p1]) ++ List.replicate (3 - (lg_sl ([.ref h0, .int p1])).length) Slot.unset).toArray = ls at hl ⊢
  have hl : lv_has ls 3 [(0, .ref h0), (1, .int p1)] := hl
  unfold zp_Itm_add at h
  refine lv_aload_n hx hb d_Itm_add_0 rfl (lv_at hl 0 rfl) ?_
  refine va_get (D := (dC, dI)) (ci := 3) (v := .int k_count) (C := R_Itm) (T := F_Itm) (N := 4) hx hb hts zl_Itm hown hK hP 0 rfl rfl 3 (by decide) (hts _ zw_17) (fun _ h9 => h9) rfl d_Itm_add_1 ?_
  refine lv_istore_n (lv' := [(2, .int k_count), (0, .ref h0), (1, .int p1)]) hx hb d_Itm_add_4 rfl hl (by decide) rfl (fun ls hl => ?_)
  refine lv_aload_n hx hb d_Itm_add_5 rfl (lv_at hl 1 rfl) ?_
  refine va_get (D := (dC, dI)) (ci := 3) (v := .ref a_orderOf) (C := R_Itm) (T := F_Itm) (N := 4) hx hb hts zl_Itm hown hK hP 0 rfl rfl 0 (by decide) (hts _ zw_18) (fun _ h9 => h9) rfl d_Itm_add_6 ?_
  refine lv_iload_n hx hb d_Itm_add_9 rfl (lv_at hl 0 rfl) ?_
  refine lv_iload_n hx hb d_Itm_add_10 rfl (lv_at hl 2 rfl) ?_
  refine va_iast hx hb hK hP hD hS 1 0 rfl rfl h.1 d_Itm_add_11 (fun H locs hP hD hS => ?_)
  have h := h.2
  have hP : va_P (dC, dI) vwCl [(h0, .inr (3, [.ref a_orderOf, .ref a_agreedRule, .ref a_first, .int k_count])), (a_orderOf, .inl (cI, 60, .inl (upd k_orderOf k_count.toNatClampNeg p1)))] H := hP
  have hD : va_D A [(h0, .inr (3, [.ref a_orderOf, .ref a_agreedRule, .ref a_first, .int k_count])), (a_orderOf, .inl (cI, 60, .inl (upd k_orderOf k_count.toNatClampNeg p1)))] := hD
  refine lv_aload_n hx hb d_Itm_add_12 rfl (lv_at hl 1 rfl) ?_
  refine lv_dup hx hb d_Itm_add_13 rfl ?_
  refine va_get (D := (dC, dI)) (ci := 3) (v := .int k_count) (C := R_Itm) (T := F_Itm) (N := 4) hx hb hts zl_Itm hown hK hP 0 rfl rfl 3 (by decide) (hts _ zw_17) (fun _ h9 => h9) rfl d_Itm_add_14 ?_
  refine lv_iconst (v := 1) hx hb d_Itm_add_17 (by decide) ?_
  refine lv_iadd hx hb d_Itm_add_18 ?_
  refine va_put (D := (dC, dI)) (ci := 3) (v := .int (k_count + 1)) (ty := .int) (C := R_Itm) (T := F_Itm) (N := 4) hx hb hts zl_Itm t_Itm t_Itm_ok n_Itm hown hK hP hD hS 0 rfl rfl 3 (by decide) (hts _ zw_17) (fun _ h9 => h9) rfl (by decide +kernel) rfl rfl (Nat.le_of_ble_eq_true rfl) d_Itm_add_19 (fun H locs hP hD hS => ?_)
  have hP : va_P (dC, dI) vwCl [(h0, .inr (3, [.ref a_orderOf, .ref a_agreedRule, .ref a_first, .int (k_count + 1)])), (a_orderOf, .inl (cI, 60, .inl (upd k_orderOf k_count.toNatClampNeg p1)))] H := hP
  have hD : va_D A [(h0, .inr (3, [.ref a_orderOf, .ref a_agreedRule, .ref a_first, .int (k_count + 1)])), (a_orderOf, .inl (cI, 60, .inl (upd k_orderOf k_count.toNatClampNeg p1)))] := hD
  refine lv_iload_n hx hb d_Itm_add_22 rfl (lv_at hl 0 rfl) ?_
  have hP9 := hP.sub (ws' := [(h0, .inr (3, [.ref a_orderOf, .ref a_agreedRule, .ref a_first, .int (k_count + 1)])), (a_orderOf, .inl (cI, 60, .inl (upd k_orderOf k_count.toNatClampNeg p1)))]) [0, 1] rfl
  have hD9 := hD.sub (ws' := [(h0, .inr (3, [.ref a_orderOf, .ref a_agreedRule, .ref a_first, .int (k_count + 1)])), (a_orderOf, .inl (cI, 60, .inl (upd k_orderOf k_count.toNatClampNeg p1)))]) [0, 1] (by decide) rfl
  exact W.iret (v := k_count) hx hb hr (fun t ht hW => ⟨⟨k_count, (upd k_orderOf k_count.toNatClampNeg p1, k_count + 1), rfl, h, by rw [ht]; exact hP9, hD9⟩, hS.F ht⟩) hS.2.2 d_Itm_add_23
set_option maxHeartbeats 4000000 in
set_option maxRecDepth 100000 in
theorem zc_Itm_begin (l : Launch) (dC : Nat → ClassId) (dI : Nat → Nat → Nat) (cI cZ cL : ClassId) (h0 a_orderOf a_agreedRule a_first : Nat) (sz : Nat) (k_first : Nat → Int32) (k_count : Int32) (p1 : Int32) (p2 : Int32) (p3 : Int32) (P : (Nat → Int32) → Prop) (h : zp_Itm_begin p1 p2 p3 k_first P) : Met l y_Itm_begin w_Itm_begin ({ frames := 0, cells := 0, slots := 0, locals := 0 }) (va_Pc [.ref h0, .int p1, .int p2, .int p3] (fun U => U.heap.size = sz ∧ va_P (dC, dI) vwCl [(h0, .inr (3, [.ref a_orderOf, .ref a_agreedRule, .ref a_first, .int k_count])), (a_first, .inl (cI, 360, .inl k_first))] U.heap ∧ va_K (dC, dI) vwCl [(cI, .int), (cZ, .boolean), (cL, .long)] U ∧ va_D (fun _ => True) [(h0, .inr (3, [.ref a_orderOf, .ref a_agreedRule, .ref a_first, .int k_count])), (a_first, .inl (cI, 360, .inl k_first))] ∧ zn_ok U)) (va_Qv (fun (u : (Nat → Int32)) => P u) (fun u t => va_P (dC, dI) vwCl [(h0, .inr (3, [.ref a_orderOf, .ref a_agreedRule, .ref a_first, .int k_count])), (a_first, .inl (cI, 360, .inl u))] t.heap ∧ va_D (va_A [(h0, .inr (3, [.ref a_orderOf, .ref a_agreedRule, .ref a_first, .int k_count])), (a_first, .inl (cI, 360, .inl k_first))] sz) [(h0, .inr (3, [.ref a_orderOf, .ref a_agreedRule, .ref a_first, .int k_count])), (a_first, .inl (cI, 360, .inl u))]) (va_A [(h0, .inr (3, [.ref a_orderOf, .ref a_agreedRule, .ref a_first, .int k_count])), (a_first, .inl (cI, 360, .inl k_first))] sz)) 0 0 (va_A [(h0, .inr (3, [.ref a_orderOf, .ref a_agreedRule, .ref a_first, .int k_count])), (a_first, .inl (cI, 360, .inl k_first))] sz) := by
  refine Met.ofW (cc := b_Itm_begin) (maxL := 4) (ret := none) (by decide) rfl ?_
  intro p e s m args below meth c s₁ B hml hv
  obtain ⟨rfl, hsz, hP, hK, hD0, hN⟩ := hv
  have hx := B.exec
  have hb := B.bytes
  have hr := B.returns
  have hts0 := atoms_spec (ws := w_Itm_begin) B.pre
  have hts : ∀ w ∈ zw_T, w.before ([.ref h0, .int p1, .int p2, .int p3] : List Value).toArray s = true := fun w h => hts0 w (List.mem_cons_of_mem _ h)
  have hown : s.vm.findClass R_Itm = some m.cls := findClass_of_methodNamed B.named
  have hlocks := B.notSynchronized
  subst hsz
  have hD := hD0.self (sz := s.heap.size)
  generalize hAe : va_A [(h0, .inr (3, [.ref a_orderOf, .ref a_agreedRule, .ref a_first, .int k_count])), (a_first, .inl (cI, 360, .inl k_first))] s.heap.size = A at hD ⊢
  have hA : ∀ q : Nat, s.heap.size ≤ q → A q := fun q h => by rw [← hAe]; exact Or.inr h
  have hS : va_S A s.heap s.heap [] := va_S.rf
  have hl := lv_entry ([.ref h0, .int p1, .int p2, .int p3]) (n := 4) (Nat.le_of_ble_eq_true rfl)
  rw [lg_entry_eq]
  generalize (lg_sl ([.ref h0, .int p1, .int p2, .int p3]) ++ List.replicate (4 - (lg_sl ([.ref h0, .int p1, .int p2, .int p3])).length) Slot.unset).toArray = ls at hl ⊢
  have hl : lv_has ls 4 [(0, .ref h0), (1, .int p1), (2, .int p2), (3, .int p3)] := hl
  unfold zp_Itm_begin at h
  refine lv_aload_n hx hb d_Itm_begin_0 rfl (lv_at hl 0 rfl) ?_
  refine va_get (D := (dC, dI)) (ci := 3) (v := .ref a_first) (C := R_Itm) (T := F_Itm) (N := 4) hx hb hts zl_Itm hown hK hP 0 rfl rfl 2 (by decide) (hts _ zw_19) (fun _ h9 => h9) rfl d_Itm_begin_1 ?_
  refine lv_iload_n hx hb d_Itm_begin_4 rfl (lv_at hl 1 rfl) ?_
  refine lv_bipush (v := 6) hx hb d_Itm_begin_5 (by decide) ?_
  refine lv_imul hx hb d_Itm_begin_7 ?_
  refine lv_iload_n hx hb d_Itm_begin_8 rfl (lv_at hl 2 rfl) ?_
  refine lv_iadd hx hb d_Itm_begin_9 ?_
  refine lv_iload_n hx hb d_Itm_begin_10 rfl (lv_at hl 3 rfl) ?_
  refine va_iast hx hb hK hP hD hS 1 0 rfl rfl h.1 d_Itm_begin_11 (fun H locs hP hD hS => ?_)
  have h := h.2
  have hP : va_P (dC, dI) vwCl [(h0, .inr (3, [.ref a_orderOf, .ref a_agreedRule, .ref a_first, .int k_count])), (a_first, .inl (cI, 360, .inl (upd k_first ((p1 * 6) + p2).toNatClampNeg p3)))] H := hP
  have hD : va_D A [(h0, .inr (3, [.ref a_orderOf, .ref a_agreedRule, .ref a_first, .int k_count])), (a_first, .inl (cI, 360, .inl (upd k_first ((p1 * 6) + p2).toNatClampNeg p3)))] := hD
  have hP9 := hP.sub (ws' := [(h0, .inr (3, [.ref a_orderOf, .ref a_agreedRule, .ref a_first, .int k_count])), (a_first, .inl (cI, 360, .inl (upd k_first ((p1 * 6) + p2).toNatClampNeg p3)))]) [0, 1] rfl
  have hD9 := hD.sub (ws' := [(h0, .inr (3, [.ref a_orderOf, .ref a_agreedRule, .ref a_first, .int k_count])), (a_first, .inl (cI, 360, .inl (upd k_first ((p1 * 6) + p2).toNatClampNeg p3)))]) [0, 1] (by decide) rfl
  exact W.vret hx hb hr (fun t ht hW => ⟨⟨(upd k_first ((p1 * 6) + p2).toNatClampNeg p3), rfl, h, by rw [ht]; exact hP9, hD9⟩, hS.F ht⟩) hS.2.2 d_Itm_begin_12
set_option maxHeartbeats 4000000 in
set_option maxRecDepth 100000 in
theorem zc_Ord_add (l : Launch) (dC : Nat → ClassId) (dI : Nat → Nat → Nat) (cI cZ cL : ClassId) (h0 a_customer a_due a_group : Nat) (sz : Nat) (k_customer : Nat → Int32) (k_due : Nat → Int32) (k_group : Nat → Int32) (k_count : Int32) (p1 : Int32) (p2 : Int32) (P : Int32 → (Nat → Int32) → (Nat → Int32) → (Nat → Int32) → Int32 → Prop) (h : zp_Ord_add p1 p2 k_customer k_due k_group k_count P) : Met l y_Ord_add w_Ord_add ({ frames := 0, cells := 0, slots := 0, locals := 0 }) (va_Pc [.ref h0, .int p1, .int p2] (fun U => U.heap.size = sz ∧ va_P (dC, dI) vwCl [(h0, .inr (4, [.ref a_customer, .ref a_due, .ref a_group, .int k_count])), (a_customer, .inl (cI, 30, .inl k_customer)), (a_due, .inl (cI, 30, .inl k_due)), (a_group, .inl (cI, 30, .inl k_group))] U.heap ∧ va_K (dC, dI) vwCl [(cI, .int), (cZ, .boolean), (cL, .long)] U ∧ va_D (fun _ => True) [(h0, .inr (4, [.ref a_customer, .ref a_due, .ref a_group, .int k_count])), (a_customer, .inl (cI, 30, .inl k_customer)), (a_due, .inl (cI, 30, .inl k_due)), (a_group, .inl (cI, 30, .inl k_group))] ∧ zn_ok U)) (va_Qi (fun (r : Int32) (u : (Nat → Int32) × (Nat → Int32) × (Nat → Int32) × Int32) => P r u.1 u.2.1 u.2.2.1 u.2.2.2) (fun u t => va_P (dC, dI) vwCl [(h0, .inr (4, [.ref a_customer, .ref a_due, .ref a_group, .int u.2.2.2])), (a_customer, .inl (cI, 30, .inl u.1)), (a_due, .inl (cI, 30, .inl u.2.1)), (a_group, .inl (cI, 30, .inl u.2.2.1))] t.heap ∧ va_D (va_A [(h0, .inr (4, [.ref a_customer, .ref a_due, .ref a_group, .int k_count])), (a_customer, .inl (cI, 30, .inl k_customer)), (a_due, .inl (cI, 30, .inl k_due)), (a_group, .inl (cI, 30, .inl k_group))] sz) [(h0, .inr (4, [.ref a_customer, .ref a_due, .ref a_group, .int u.2.2.2])), (a_customer, .inl (cI, 30, .inl u.1)), (a_due, .inl (cI, 30, .inl u.2.1)), (a_group, .inl (cI, 30, .inl u.2.2.1))]) (va_A [(h0, .inr (4, [.ref a_customer, .ref a_due, .ref a_group, .int k_count])), (a_customer, .inl (cI, 30, .inl k_customer)), (a_due, .inl (cI, 30, .inl k_due)), (a_group, .inl (cI, 30, .inl k_group))] sz)) 0 0 (va_A [(h0, .inr (4, [.ref a_customer, .ref a_due, .ref a_group, .int k_count])), (a_customer, .inl (cI, 30, .inl k_customer)), (a_due, .inl (cI, 30, .inl k_due)), (a_group, .inl (cI, 30, .inl k_group))] sz) := by
  refine Met.ofW (cc := b_Ord_add) (maxL := 4) (ret := (some .int)) (by decide) rfl ?_
  intro p e s m args below meth c s₁ B hml hv
  obtain ⟨rfl, hsz, hP, hK, hD0, hN⟩ := hv
  have hx := B.exec
  have hb := B.bytes
  have hr := B.returns
  have hts0 := atoms_spec (ws := w_Ord_add) B.pre
  have hts : ∀ w ∈ zw_T, w.before ([.ref h0, .int p1, .int p2] : List Value).toArray s = true := fun w h => hts0 w (List.mem_cons_of_mem _ h)
  have hown : s.vm.findClass R_Ord = some m.cls := findClass_of_methodNamed B.named
  have hlocks := B.notSynchronized
  subst hsz
  have hD := hD0.self (sz := s.heap.size)
  generalize hAe : va_A [(h0, .inr (4, [.ref a_customer, .ref a_due, .ref a_group, .int k_count])), (a_customer, .inl (cI, 30, .inl k_customer)), (a_due, .inl (cI, 30, .inl k_due)), (a_group, .inl (cI, 30, .inl k_group))] s.heap.size = A at hD ⊢
  have hA : ∀ q : Nat, s.heap.size ≤ q → A q := fun q h => by rw [← hAe]; exact Or.inr h
  have hS : va_S A s.heap s.heap [] := va_S.rf
  have hl := lv_entry ([.ref h0, .int p1, .int p2]) (n := 4) (Nat.le_of_ble_eq_true rfl)
  rw [lg_entry_eq]
  generalize (lg_sl ([.ref h0, .int p1, .int p2]) ++ List.replicate (4 - (lg_sl ([.ref h0, .int p1, .int p2])).length) Slot.unset).toArray = ls at hl ⊢
  have hl : lv_has ls 4 [(0, .ref h0), (1, .int p1), (2, .int p2)] := hl
  unfold zp_Ord_add at h
  refine lv_aload_n hx hb d_Ord_add_0 rfl (lv_at hl 0 rfl) ?_
  refine va_get (D := (dC, dI)) (ci := 4) (v := .int k_count) (C := R_Ord) (T := F_Ord) (N := 4) hx hb hts zl_Ord hown hK hP 0 rfl rfl 3 (by decide) (hts _ zw_21) (fun _ h9 => h9) rfl d_Ord_add_1 ?_
  refine lv_istore_n (lv' := [(3, .int k_count), (0, .ref h0), (1, .int p1), (2, .int p2)]) hx hb d_Ord_add_4 rfl hl (by decide) rfl (fun ls hl => ?_)
  refine lv_aload_n hx hb d_Ord_add_5 rfl (lv_at hl 1 rfl) ?_
  refine va_get (D := (dC, dI)) (ci := 4) (v := .ref a_customer) (C := R_Ord) (T := F_Ord) (N := 4) hx hb hts zl_Ord hown hK hP 0 rfl rfl 0 (by decide) (hts _ zw_22) (fun _ h9 => h9) rfl d_Ord_add_6 ?_
  refine lv_iload_n hx hb d_Ord_add_9 rfl (lv_at hl 0 rfl) ?_
  refine lv_iload_n hx hb d_Ord_add_10 rfl (lv_at hl 2 rfl) ?_
  refine va_iast hx hb hK hP hD hS 1 0 rfl rfl h.1 d_Ord_add_11 (fun H locs hP hD hS => ?_)
  have h := h.2
  have hP : va_P (dC, dI) vwCl [(h0, .inr (4, [.ref a_customer, .ref a_due, .ref a_group, .int k_count])), (a_customer, .inl (cI, 30, .inl (upd k_customer k_count.toNatClampNeg p1))), (a_due, .inl (cI, 30, .inl k_due)), (a_group, .inl (cI, 30, .inl k_group))] H := hP
  have hD : va_D A [(h0, .inr (4, [.ref a_customer, .ref a_due, .ref a_group, .int k_count])), (a_customer, .inl (cI, 30, .inl (upd k_customer k_count.toNatClampNeg p1))), (a_due, .inl (cI, 30, .inl k_due)), (a_group, .inl (cI, 30, .inl k_group))] := hD
  refine lv_aload_n hx hb d_Ord_add_12 rfl (lv_at hl 1 rfl) ?_
  refine va_get (D := (dC, dI)) (ci := 4) (v := .ref a_due) (C := R_Ord) (T := F_Ord) (N := 4) hx hb hts zl_Ord hown hK hP 0 rfl rfl 1 (by decide) (hts _ zw_23) (fun _ h9 => h9) rfl d_Ord_add_13 ?_
  refine lv_iload_n hx hb d_Ord_add_16 rfl (lv_at hl 0 rfl) ?_
  refine lv_iload_n hx hb d_Ord_add_17 rfl (lv_at hl 3 rfl) ?_
  refine va_iast hx hb hK hP hD hS 2 0 rfl rfl h.1 d_Ord_add_18 (fun H locs hP hD hS => ?_)
  have h := h.2
  have hP : va_P (dC, dI) vwCl [(h0, .inr (4, [.ref a_customer, .ref a_due, .ref a_group, .int k_count])), (a_customer, .inl (cI, 30, .inl (upd k_customer k_count.toNatClampNeg p1))), (a_due, .inl (cI, 30, .inl (upd k_due k_count.toNatClampNeg p2))), (a_group, .inl (cI, 30, .inl k_group))] H := hP
  have hD : va_D A [(h0, .inr (4, [.ref a_customer, .ref a_due, .ref a_group, .int k_count])), (a_customer, .inl (cI, 30, .inl (upd k_customer k_count.toNatClampNeg p1))), (a_due, .inl (cI, 30, .inl (upd k_due k_count.toNatClampNeg p2))), (a_group, .inl (cI, 30, .inl k_group))] := hD
  refine lv_aload_n hx hb d_Ord_add_19 rfl (lv_at hl 1 rfl) ?_
  refine va_get (D := (dC, dI)) (ci := 4) (v := .ref a_group) (C := R_Ord) (T := F_Ord) (N := 4) hx hb hts zl_Ord hown hK hP 0 rfl rfl 2 (by decide) (hts _ zw_24) (fun _ h9 => h9) rfl d_Ord_add_20 ?_
  refine lv_iload_n hx hb d_Ord_add_23 rfl (lv_at hl 0 rfl) ?_
  refine lv_iload_n hx hb d_Ord_add_24 rfl (lv_at hl 0 rfl) ?_
  refine va_iast hx hb hK hP hD hS 3 0 rfl rfl h.1 d_Ord_add_25 (fun H locs hP hD hS => ?_)
  have h := h.2
  have hP : va_P (dC, dI) vwCl [(h0, .inr (4, [.ref a_customer, .ref a_due, .ref a_group, .int k_count])), (a_customer, .inl (cI, 30, .inl (upd k_customer k_count.toNatClampNeg p1))), (a_due, .inl (cI, 30, .inl (upd k_due k_count.toNatClampNeg p2))), (a_group, .inl (cI, 30, .inl (upd k_group k_count.toNatClampNeg k_count)))] H := hP
  have hD : va_D A [(h0, .inr (4, [.ref a_customer, .ref a_due, .ref a_group, .int k_count])), (a_customer, .inl (cI, 30, .inl (upd k_customer k_count.toNatClampNeg p1))), (a_due, .inl (cI, 30, .inl (upd k_due k_count.toNatClampNeg p2))), (a_group, .inl (cI, 30, .inl (upd k_group k_count.toNatClampNeg k_count)))] := hD
  refine lv_aload_n hx hb d_Ord_add_26 rfl (lv_at hl 1 rfl) ?_
  refine lv_dup hx hb d_Ord_add_27 rfl ?_
  refine va_get (D := (dC, dI)) (ci := 4) (v := .int k_count) (C := R_Ord) (T := F_Ord) (N := 4) hx hb hts zl_Ord hown hK hP 0 rfl rfl 3 (by decide) (hts _ zw_21) (fun _ h9 => h9) rfl d_Ord_add_28 ?_
  refine lv_iconst (v := 1) hx hb d_Ord_add_31 (by decide) ?_
  refine lv_iadd hx hb d_Ord_add_32 ?_
  refine va_put (D := (dC, dI)) (ci := 4) (v := .int (k_count + 1)) (ty := .int) (C := R_Ord) (T := F_Ord) (N := 4) hx hb hts zl_Ord t_Ord t_Ord_ok n_Ord hown hK hP hD hS 0 rfl rfl 3 (by decide) (hts _ zw_21) (fun _ h9 => h9) rfl (by decide +kernel) rfl rfl (Nat.le_of_ble_eq_true rfl) d_Ord_add_33 (fun H locs hP hD hS => ?_)
  have hP : va_P (dC, dI) vwCl [(h0, .inr (4, [.ref a_customer, .ref a_due, .ref a_group, .int (k_count + 1)])), (a_customer, .inl (cI, 30, .inl (upd k_customer k_count.toNatClampNeg p1))), (a_due, .inl (cI, 30, .inl (upd k_due k_count.toNatClampNeg p2))), (a_group, .inl (cI, 30, .inl (upd k_group k_count.toNatClampNeg k_count)))] H := hP
  have hD : va_D A [(h0, .inr (4, [.ref a_customer, .ref a_due, .ref a_group, .int (k_count + 1)])), (a_customer, .inl (cI, 30, .inl (upd k_customer k_count.toNatClampNeg p1))), (a_due, .inl (cI, 30, .inl (upd k_due k_count.toNatClampNeg p2))), (a_group, .inl (cI, 30, .inl (upd k_group k_count.toNatClampNeg k_count)))] := hD
  refine lv_iload_n hx hb d_Ord_add_36 rfl (lv_at hl 0 rfl) ?_
  have hP9 := hP.sub (ws' := [(h0, .inr (4, [.ref a_customer, .ref a_due, .ref a_group, .int (k_count + 1)])), (a_customer, .inl (cI, 30, .inl (upd k_customer k_count.toNatClampNeg p1))), (a_due, .inl (cI, 30, .inl (upd k_due k_count.toNatClampNeg p2))), (a_group, .inl (cI, 30, .inl (upd k_group k_count.toNatClampNeg k_count)))]) [0, 1, 2, 3] rfl
  have hD9 := hD.sub (ws' := [(h0, .inr (4, [.ref a_customer, .ref a_due, .ref a_group, .int (k_count + 1)])), (a_customer, .inl (cI, 30, .inl (upd k_customer k_count.toNatClampNeg p1))), (a_due, .inl (cI, 30, .inl (upd k_due k_count.toNatClampNeg p2))), (a_group, .inl (cI, 30, .inl (upd k_group k_count.toNatClampNeg k_count)))]) [0, 1, 2, 3] (by decide) rfl
  exact W.iret (v := k_count) hx hb hr (fun t ht hW => ⟨⟨k_count, (upd k_customer k_count.toNatClampNeg p1, upd k_due k_count.toNatClampNeg p2, upd k_group k_count.toNatClampNeg k_count, k_count + 1), rfl, h, by rw [ht]; exact hP9, hD9⟩, hS.F ht⟩) hS.2.2 d_Ord_add_37
set_option maxHeartbeats 4000000 in
set_option maxRecDepth 100000 in
theorem zc_Ord_merge (l : Launch) (dC : Nat → ClassId) (dI : Nat → Nat → Nat) (cI cZ cL : ClassId) (h0 a_customer a_due a_group : Nat) (sz : Nat) (k_group : Nat → Int32) (k_count : Int32) (p1 : Int32) (p2 : Int32) (P : (Nat → Int32) → Prop) (h : zp_Ord_merge p1 p2 k_group k_count P) : Met l y_Ord_merge w_Ord_merge ({ frames := 0, cells := 0, slots := 0, locals := 0 }) (va_Pc [.ref h0, .int p1, .int p2] (fun U => U.heap.size = sz ∧ va_P (dC, dI) vwCl [(h0, .inr (4, [.ref a_customer, .ref a_due, .ref a_group, .int k_count])), (a_group, .inl (cI, 30, .inl k_group))] U.heap ∧ va_K (dC, dI) vwCl [(cI, .int), (cZ, .boolean), (cL, .long)] U ∧ va_D (fun _ => True) [(h0, .inr (4, [.ref a_customer, .ref a_due, .ref a_group, .int k_count])), (a_group, .inl (cI, 30, .inl k_group))] ∧ zn_ok U)) (va_Qv (fun (u : (Nat → Int32)) => P u) (fun u t => va_P (dC, dI) vwCl [(h0, .inr (4, [.ref a_customer, .ref a_due, .ref a_group, .int k_count])), (a_group, .inl (cI, 30, .inl u))] t.heap ∧ va_D (va_A [(h0, .inr (4, [.ref a_customer, .ref a_due, .ref a_group, .int k_count])), (a_group, .inl (cI, 30, .inl k_group))] sz) [(h0, .inr (4, [.ref a_customer, .ref a_due, .ref a_group, .int k_count])), (a_group, .inl (cI, 30, .inl u))]) (va_A [(h0, .inr (4, [.ref a_customer, .ref a_due, .ref a_group, .int k_count])), (a_group, .inl (cI, 30, .inl k_group))] sz)) 0 0 (va_A [(h0, .inr (4, [.ref a_customer, .ref a_due, .ref a_group, .int k_count])), (a_group, .inl (cI, 30, .inl k_group))] sz) := by
  refine Met.ofW (cc := b_Ord_merge) (maxL := 6) (ret := none) (by decide) rfl ?_
  intro p e s m args below meth c s₁ B hml hv
  obtain ⟨rfl, hsz, hP, hK, hD0, hN⟩ := hv
  have hx := B.exec
  have hb := B.bytes
  have hr := B.returns
  have hts0 := atoms_spec (ws := w_Ord_merge) B.pre
  have hts : ∀ w ∈ zw_T, w.before ([.ref h0, .int p1, .int p2] : List Value).toArray s = true := fun w h => hts0 w (List.mem_cons_of_mem _ h)
  have hown : s.vm.findClass R_Ord = some m.cls := findClass_of_methodNamed B.named
  have hlocks := B.notSynchronized
  subst hsz
  have hD := hD0.self (sz := s.heap.size)
  generalize hAe : va_A [(h0, .inr (4, [.ref a_customer, .ref a_due, .ref a_group, .int k_count])), (a_group, .inl (cI, 30, .inl k_group))] s.heap.size = A at hD ⊢
  have hA : ∀ q : Nat, s.heap.size ≤ q → A q := fun q h => by rw [← hAe]; exact Or.inr h
  have hS : va_S A s.heap s.heap [] := va_S.rf
  have hl := lv_entry ([.ref h0, .int p1, .int p2]) (n := 6) (Nat.le_of_ble_eq_true rfl)
  rw [lg_entry_eq]
  generalize (lg_sl ([.ref h0, .int p1, .int p2]) ++ List.replicate (6 - (lg_sl ([.ref h0, .int p1, .int p2])).length) Slot.unset).toArray = ls at hl ⊢
  have hl : lv_has ls 6 [(0, .ref h0), (1, .int p1), (2, .int p2)] := hl
  have B47 : ∀ (v3 : Int32) (v4 : Int32) (v5 : Int32) (k_group : Nat → Int32) (K18 : Int32 → (Nat → Int32) → Prop) (hK18 : ∀ (v5 : Int32) (k_group : Nat → Int32), ∀ (H : Heap) (locs : List Loc) (ls : Array Slot), K18 v5 k_group → va_P (dC, dI) vwCl [(h0, .inr (4, [.ref a_customer, .ref a_due, .ref a_group, .int k_count])), (a_group, .inl (cI, 30, .inl k_group))] H → va_D A [(h0, .inr (4, [.ref a_customer, .ref a_due, .ref a_group, .int k_count])), (a_group, .inl (cI, 30, .inl k_group))] → va_S A s.heap H locs → lv_has ls 6 [(0, .ref h0), (3, .int v3), (4, .int v4), (5, .int v5)] → W p l e (headSpec w_Ord_merge ({ frames := 0, cells := 0, slots := 0, locals := 0 })).room s m ([.ref h0, .int p1, .int p2] : List Value).toArray below meth c H locs 0 0 (MQ below (va_Qv (fun (u : (Nat → Int32)) => P u) (fun u t => va_P (dC, dI) vwCl [(h0, .inr (4, [.ref a_customer, .ref a_due, .ref a_group, .int k_count])), (a_group, .inl (cI, 30, .inl u))] t.heap ∧ va_D A [(h0, .inr (4, [.ref a_customer, .ref a_due, .ref a_group, .int k_count])), (a_group, .inl (cI, 30, .inl u))]) A) ([.ref h0, .int p1, .int p2] : List Value).toArray s 0 0 A) (F0 m 18 ls [])), ∀ (H : Heap) (locs : List Loc) (ls : Array Slot), zp_Ord_merge_47 K18 v5 k_group → va_P (dC, dI) vwCl [(h0, .inr (4, [.ref a_customer, .ref a_due, .ref a_group, .int k_count])), (a_group, .inl (cI, 30, .inl k_group))] H → va_D A [(h0, .inr (4, [.ref a_customer, .ref a_due, .ref a_group, .int k_count])), (a_group, .inl (cI, 30, .inl k_group))] → va_S A s.heap H locs → lv_has ls 6 [(0, .ref h0), (3, .int v3), (4, .int v4), (5, .int v5)] → W p l e (headSpec w_Ord_merge ({ frames := 0, cells := 0, slots := 0, locals := 0 })).room s m ([.ref h0, .int p1, .int p2] : List Value).toArray below meth c H locs 0 0 (MQ below (va_Qv (fun (u : (Nat → Int32)) => P u) (fun u t => va_P (dC, dI) vwCl [(h0, .inr (4, [.ref a_customer, .ref a_due, .ref a_group, .int k_count])), (a_group, .inl (cI, 30, .inl u))] t.heap ∧ va_D A [(h0, .inr (4, [.ref a_customer, .ref a_due, .ref a_group, .int k_count])), (a_group, .inl (cI, 30, .inl u))]) A) ([.ref h0, .int p1, .int p2] : List Value).toArray s 0 0 A) (F0 m 47 ls []) := by
    intro v3 v4 v5 k_group K18 hK18 H locs ls h hP hD hS hl
    unfold zp_Ord_merge_47 at h
    refine lv_iinc (v := v5 + 1) (lv' := [(5, .int (v5 + 1)), (0, .ref h0), (3, .int v3), (4, .int v4)]) hx hb d_Ord_merge_47 hl (k := 3) rfl rfl (by decide) rfl (fun ls hl => ?_)
    refine lv_goto (tgt := 18) hx hb d_Ord_merge_50 (by decide) ?_
    exact hK18 (v5 + 1) k_group _ _ ls h (hP.sub [0, 1] rfl) (hD.sub [0, 1] (by decide) rfl) hS (lv_sub hl [1, 2, 3, 0] rfl)
  have B18 : ∀ (v3 : Int32) (v4 : Int32), ∀ (n : Nat) (v5 : Int32) (k_group : Nat → Int32), ∀ (H : Heap) (locs : List Loc) (ls : Array Slot), zp_Ord_merge_18 k_count P v3 v4 n v5 k_group → va_P (dC, dI) vwCl [(h0, .inr (4, [.ref a_customer, .ref a_due, .ref a_group, .int k_count])), (a_group, .inl (cI, 30, .inl k_group))] H → va_D A [(h0, .inr (4, [.ref a_customer, .ref a_due, .ref a_group, .int k_count])), (a_group, .inl (cI, 30, .inl k_group))] → va_S A s.heap H locs → lv_has ls 6 [(0, .ref h0), (3, .int v3), (4, .int v4), (5, .int v5)] → W p l e (headSpec w_Ord_merge ({ frames := 0, cells := 0, slots := 0, locals := 0 })).room s m ([.ref h0, .int p1, .int p2] : List Value).toArray below meth c H locs 0 0 (MQ below (va_Qv (fun (u : (Nat → Int32)) => P u) (fun u t => va_P (dC, dI) vwCl [(h0, .inr (4, [.ref a_customer, .ref a_due, .ref a_group, .int k_count])), (a_group, .inl (cI, 30, .inl u))] t.heap ∧ va_D A [(h0, .inr (4, [.ref a_customer, .ref a_due, .ref a_group, .int k_count])), (a_group, .inl (cI, 30, .inl u))]) A) ([.ref h0, .int p1, .int p2] : List Value).toArray s 0 0 A) (F0 m 18 ls []) := by
    intro v3 v4
    intro n
    induction n with
    | zero =>
      intro v5 k_group H locs ls h hP hD hS hl
      exact h.elim
    | succ n ih =>
      intro v5 k_group H locs ls h hP hD hS hl
      unfold zp_Ord_merge_18 at h
      refine lv_iload hx hb d_Ord_merge_18 (lv_at hl 3 rfl) ?_
      refine lv_aload_n hx hb d_Ord_merge_20 rfl (lv_at hl 0 rfl) ?_
      refine va_get (D := (dC, dI)) (ci := 4) (v := .int k_count) (C := R_Ord) (T := F_Ord) (N := 4) hx hb hts zl_Ord hown hK hP 0 rfl rfl 3 (by decide) (hts _ zw_21) (fun _ h9 => h9) rfl d_Ord_merge_21 ?_
      refine lv_icmp_ge (tgt := 53) hx hb d_Ord_merge_24 (by decide) (fun c1 => ?_) (fun c1 => ?_)
      · have h := h.1 c1
        have hP9 := hP.sub (ws' := [(h0, .inr (4, [.ref a_customer, .ref a_due, .ref a_group, .int k_count])), (a_group, .inl (cI, 30, .inl k_group))]) [0, 1] rfl
        have hD9 := hD.sub (ws' := [(h0, .inr (4, [.ref a_customer, .ref a_due, .ref a_group, .int k_count])), (a_group, .inl (cI, 30, .inl k_group))]) [0, 1] (by decide) rfl
        exact W.vret hx hb hr (fun t ht hW => ⟨⟨(k_group), rfl, h, by rw [ht]; exact hP9, hD9⟩, hS.F ht⟩) hS.2.2 d_Ord_merge_53
      · have h := h.2 c1
        refine lv_aload_n hx hb d_Ord_merge_27 rfl (lv_at hl 0 rfl) ?_
        refine va_get (D := (dC, dI)) (ci := 4) (v := .ref a_group) (C := R_Ord) (T := F_Ord) (N := 4) hx hb hts zl_Ord hown hK hP 0 rfl rfl 2 (by decide) (hts _ zw_24) (fun _ h9 => h9) rfl d_Ord_merge_28 ?_
        refine lv_iload hx hb d_Ord_merge_31 (lv_at hl 3 rfl) ?_
        refine va_iald hx hb hK hP 1 0 rfl rfl h.1 d_Ord_merge_33 ?_
        have h := h.2
        refine lv_iload hx hb d_Ord_merge_34 (lv_at hl 2 rfl) ?_
        refine lv_icmp_ne (tgt := 47) hx hb d_Ord_merge_36 (by decide) (fun c2 => ?_) (fun c2 => ?_)
        · have h := h.1 c2
          exact B47 v3 v4 v5 k_group _ ih _ _ ls h (hP.sub [0, 1] rfl) (hD.sub [0, 1] (by decide) rfl) hS (lv_sub hl [0, 1, 2, 3] rfl)
        · have h := h.2 c2
          refine lv_aload_n hx hb d_Ord_merge_39 rfl (lv_at hl 0 rfl) ?_
          refine va_get (D := (dC, dI)) (ci := 4) (v := .ref a_group) (C := R_Ord) (T := F_Ord) (N := 4) hx hb hts zl_Ord hown hK hP 0 rfl rfl 2 (by decide) (hts _ zw_24) (fun _ h9 => h9) rfl d_Ord_merge_40 ?_
          refine lv_iload hx hb d_Ord_merge_43 (lv_at hl 3 rfl) ?_
          refine lv_iload_n hx hb d_Ord_merge_45 rfl (lv_at hl 1 rfl) ?_
          refine va_iast hx hb hK hP hD hS 1 0 rfl rfl h.1 d_Ord_merge_46 (fun H locs hP hD hS => ?_)
          have h := h.2
          have hP : va_P (dC, dI) vwCl [(h0, .inr (4, [.ref a_customer, .ref a_due, .ref a_group, .int k_count])), (a_group, .inl (cI, 30, .inl (upd k_group v5.toNatClampNeg v3)))] H := hP
          have hD : va_D A [(h0, .inr (4, [.ref a_customer, .ref a_due, .ref a_group, .int k_count])), (a_group, .inl (cI, 30, .inl (upd k_group v5.toNatClampNeg v3)))] := hD
          exact B47 v3 v4 v5 (upd k_group v5.toNatClampNeg v3) _ ih _ _ ls h (hP.sub [0, 1] rfl) (hD.sub [0, 1] (by decide) rfl) hS (lv_sub hl [0, 1, 2, 3] rfl)
  unfold zp_Ord_merge at h
  refine lv_aload_n hx hb d_Ord_merge_0 rfl (lv_at hl 0 rfl) ?_
  refine va_get (D := (dC, dI)) (ci := 4) (v := .ref a_group) (C := R_Ord) (T := F_Ord) (N := 4) hx hb hts zl_Ord hown hK hP 0 rfl rfl 2 (by decide) (hts _ zw_24) (fun _ h9 => h9) rfl d_Ord_merge_1 ?_
  refine lv_iload_n hx hb d_Ord_merge_4 rfl (lv_at hl 1 rfl) ?_
  refine va_iald hx hb hK hP 1 0 rfl rfl h.1 d_Ord_merge_5 ?_
  have h := h.2
  refine lv_topi (fun y3 ey3 => ?_)
  have h := h y3 ey3
  refine lv_istore_n (lv' := [(3, .int y3), (0, .ref h0), (1, .int p1), (2, .int p2)]) hx hb d_Ord_merge_6 rfl hl (by decide) rfl (fun ls hl => ?_)
  refine lv_aload_n hx hb d_Ord_merge_7 rfl (lv_at hl 1 rfl) ?_
  refine va_get (D := (dC, dI)) (ci := 4) (v := .ref a_group) (C := R_Ord) (T := F_Ord) (N := 4) hx hb hts zl_Ord hown hK hP 0 rfl rfl 2 (by decide) (hts _ zw_24) (fun _ h9 => h9) rfl d_Ord_merge_8 ?_
  refine lv_iload_n hx hb d_Ord_merge_11 rfl (lv_at hl 3 rfl) ?_
  refine va_iald hx hb hK hP 1 0 rfl rfl h.1 d_Ord_merge_12 ?_
  have h := h.2
  refine lv_topi (fun y4 ey4 => ?_)
  have h := h y4 ey4
  refine lv_istore (lv' := [(4, .int y4), (3, .int y3), (0, .ref h0), (1, .int p1), (2, .int p2)]) hx hb d_Ord_merge_13 hl (by decide) rfl (fun ls hl => ?_)
  refine lv_iconst (v := 0) hx hb d_Ord_merge_15 (by decide) ?_
  refine lv_istore (lv' := [(5, .int 0), (4, .int y4), (3, .int y3), (0, .ref h0), (1, .int p1), (2, .int p2)]) hx hb d_Ord_merge_16 hl (by decide) rfl (fun ls hl => ?_)
  obtain ⟨n, h⟩ := h
  exact B18 y3 y4 n 0 k_group _ _ ls h (hP.sub [0, 1] rfl) (hD.sub [0, 1] (by decide) rfl) hS (lv_sub hl [3, 2, 1, 0] rfl)
set_option maxHeartbeats 4000000 in
set_option maxRecDepth 100000 in
theorem zc_Out_add (l : Launch) (dC : Nat → ClassId) (dI : Nat → Nat → Nat) (cI cZ cL : ClassId) (h0 a_item a_day a_kilos a_total : Nat) (sz : Nat) (k_item : Nat → Int32) (k_day : Nat → Int32) (k_kilos : Nat → Int32) (k_total : Nat → Int32) (k_count : Int32) (p1 : Int32) (p2 : Int32) (p3 : Int32) (P : (Nat → Int32) → (Nat → Int32) → (Nat → Int32) → (Nat → Int32) → Int32 → Prop) (h : zp_Out_add p1 p2 p3 k_item k_day k_kilos k_total k_count P) : Met l y_Out_add w_Out_add ({ frames := 0, cells := 0, slots := 0, locals := 0 }) (va_Pc [.ref h0, .int p1, .int p2, .int p3] (fun U => U.heap.size = sz ∧ va_P (dC, dI) vwCl [(h0, .inr (5, [.ref a_item, .ref a_day, .ref a_kilos, .ref a_total, .int k_count])), (a_item, .inl (cI, 200, .inl k_item)), (a_day, .inl (cI, 200, .inl k_day)), (a_kilos, .inl (cI, 200, .inl k_kilos)), (a_total, .inl (cI, 60, .inl k_total))] U.heap ∧ va_K (dC, dI) vwCl [(cI, .int), (cZ, .boolean), (cL, .long)] U ∧ va_D (fun _ => True) [(h0, .inr (5, [.ref a_item, .ref a_day, .ref a_kilos, .ref a_total, .int k_count])), (a_item, .inl (cI, 200, .inl k_item)), (a_day, .inl (cI, 200, .inl k_day)), (a_kilos, .inl (cI, 200, .inl k_kilos)), (a_total, .inl (cI, 60, .inl k_total))] ∧ zn_ok U)) (va_Qv (fun (u : (Nat → Int32) × (Nat → Int32) × (Nat → Int32) × (Nat → Int32) × Int32) => P u.1 u.2.1 u.2.2.1 u.2.2.2.1 u.2.2.2.2) (fun u t => va_P (dC, dI) vwCl [(h0, .inr (5, [.ref a_item, .ref a_day, .ref a_kilos, .ref a_total, .int u.2.2.2.2])), (a_item, .inl (cI, 200, .inl u.1)), (a_day, .inl (cI, 200, .inl u.2.1)), (a_kilos, .inl (cI, 200, .inl u.2.2.1)), (a_total, .inl (cI, 60, .inl u.2.2.2.1))] t.heap ∧ va_D (va_A [(h0, .inr (5, [.ref a_item, .ref a_day, .ref a_kilos, .ref a_total, .int k_count])), (a_item, .inl (cI, 200, .inl k_item)), (a_day, .inl (cI, 200, .inl k_day)), (a_kilos, .inl (cI, 200, .inl k_kilos)), (a_total, .inl (cI, 60, .inl k_total))] sz) [(h0, .inr (5, [.ref a_item, .ref a_day, .ref a_kilos, .ref a_total, .int u.2.2.2.2])), (a_item, .inl (cI, 200, .inl u.1)), (a_day, .inl (cI, 200, .inl u.2.1)), (a_kilos, .inl (cI, 200, .inl u.2.2.1)), (a_total, .inl (cI, 60, .inl u.2.2.2.1))]) (va_A [(h0, .inr (5, [.ref a_item, .ref a_day, .ref a_kilos, .ref a_total, .int k_count])), (a_item, .inl (cI, 200, .inl k_item)), (a_day, .inl (cI, 200, .inl k_day)), (a_kilos, .inl (cI, 200, .inl k_kilos)), (a_total, .inl (cI, 60, .inl k_total))] sz)) 0 0 (va_A [(h0, .inr (5, [.ref a_item, .ref a_day, .ref a_kilos, .ref a_total, .int k_count])), (a_item, .inl (cI, 200, .inl k_item)), (a_day, .inl (cI, 200, .inl k_day)), (a_kilos, .inl (cI, 200, .inl k_kilos)), (a_total, .inl (cI, 60, .inl k_total))] sz) := by
  refine Met.ofW (cc := b_Out_add) (maxL := 4) (ret := none) (by decide) rfl ?_
  intro p e s m args below meth c s₁ B hml hv
  obtain ⟨rfl, hsz, hP, hK, hD0, hN⟩ := hv
  have hx := B.exec
  have hb := B.bytes
  have hr := B.returns
  have hts0 := atoms_spec (ws := w_Out_add) B.pre
  have hts : ∀ w ∈ zw_T, w.before ([.ref h0, .int p1, .int p2, .int p3] : List Value).toArray s = true := fun w h => hts0 w (List.mem_cons_of_mem _ h)
  have hown : s.vm.findClass R_Out = some m.cls := findClass_of_methodNamed B.named
  have hlocks := B.notSynchronized
  subst hsz
  have hD := hD0.self (sz := s.heap.size)
  generalize hAe : va_A [(h0, .inr (5, [.ref a_item, .ref a_day, .ref a_kilos, .ref a_total, .int k_count])), (a_item, .inl (cI, 200, .inl k_item)), (a_day, .inl (cI, 200, .inl k_day)), (a_kilos, .inl (cI, 200, .inl k_kilos)), (a_total, .inl (cI, 60, .inl k_total))] s.heap.size = A at hD ⊢
  have hA : ∀ q : Nat, s.heap.size ≤ q → A q := fun q h => by rw [← hAe]; exact Or.inr h
  have hS : va_S A s.heap s.heap [] := va_S.rf
  have hl := lv_entry ([.ref h0, .int p1, .int p2, .int p3]) (n := 4) (Nat.le_of_ble_eq_true rfl)
  rw [lg_entry_eq]
  generalize (lg_sl ([.ref h0, .int p1, .int p2, .int p3]) ++ List.replicate (4 - (lg_sl ([.ref h0, .int p1, .int p2, .int p3])).length) Slot.unset).toArray = ls at hl ⊢
  have hl : lv_has ls 4 [(0, .ref h0), (1, .int p1), (2, .int p2), (3, .int p3)] := hl
  unfold zp_Out_add at h
  refine lv_aload_n hx hb d_Out_add_0 rfl (lv_at hl 0 rfl) ?_
  refine va_get (D := (dC, dI)) (ci := 5) (v := .ref a_item) (C := R_Out) (T := F_Out) (N := 5) hx hb hts zl_Out hown hK hP 0 rfl rfl 0 (by decide) (hts _ zw_30) (fun _ h9 => h9) rfl d_Out_add_1 ?_
  refine lv_aload_n hx hb d_Out_add_4 rfl (lv_at hl 0 rfl) ?_
  refine va_get (D := (dC, dI)) (ci := 5) (v := .int k_count) (C := R_Out) (T := F_Out) (N := 5) hx hb hts zl_Out hown hK hP 0 rfl rfl 4 (by decide) (hts _ zw_31) (fun _ h9 => h9) rfl d_Out_add_5 ?_
  refine lv_iload_n hx hb d_Out_add_8 rfl (lv_at hl 1 rfl) ?_
  refine va_iast hx hb hK hP hD hS 1 0 rfl rfl h.1 d_Out_add_9 (fun H locs hP hD hS => ?_)
  have h := h.2
  have hP : va_P (dC, dI) vwCl [(h0, .inr (5, [.ref a_item, .ref a_day, .ref a_kilos, .ref a_total, .int k_count])), (a_item, .inl (cI, 200, .inl (upd k_item k_count.toNatClampNeg p1))), (a_day, .inl (cI, 200, .inl k_day)), (a_kilos, .inl (cI, 200, .inl k_kilos)), (a_total, .inl (cI, 60, .inl k_total))] H := hP
  have hD : va_D A [(h0, .inr (5, [.ref a_item, .ref a_day, .ref a_kilos, .ref a_total, .int k_count])), (a_item, .inl (cI, 200, .inl (upd k_item k_count.toNatClampNeg p1))), (a_day, .inl (cI, 200, .inl k_day)), (a_kilos, .inl (cI, 200, .inl k_kilos)), (a_total, .inl (cI, 60, .inl k_total))] := hD
  refine lv_aload_n hx hb d_Out_add_10 rfl (lv_at hl 0 rfl) ?_
  refine va_get (D := (dC, dI)) (ci := 5) (v := .ref a_day) (C := R_Out) (T := F_Out) (N := 5) hx hb hts zl_Out hown hK hP 0 rfl rfl 1 (by decide) (hts _ zw_32) (fun _ h9 => h9) rfl d_Out_add_11 ?_
  refine lv_aload_n hx hb d_Out_add_14 rfl (lv_at hl 0 rfl) ?_
  refine va_get (D := (dC, dI)) (ci := 5) (v := .int k_count) (C := R_Out) (T := F_Out) (N := 5) hx hb hts zl_Out hown hK hP 0 rfl rfl 4 (by decide) (hts _ zw_31) (fun _ h9 => h9) rfl d_Out_add_15 ?_
  refine lv_iload_n hx hb d_Out_add_18 rfl (lv_at hl 2 rfl) ?_
  refine va_iast hx hb hK hP hD hS 2 0 rfl rfl h.1 d_Out_add_19 (fun H locs hP hD hS => ?_)
  have h := h.2
  have hP : va_P (dC, dI) vwCl [(h0, .inr (5, [.ref a_item, .ref a_day, .ref a_kilos, .ref a_total, .int k_count])), (a_item, .inl (cI, 200, .inl (upd k_item k_count.toNatClampNeg p1))), (a_day, .inl (cI, 200, .inl (upd k_day k_count.toNatClampNeg p2))), (a_kilos, .inl (cI, 200, .inl k_kilos)), (a_total, .inl (cI, 60, .inl k_total))] H := hP
  have hD : va_D A [(h0, .inr (5, [.ref a_item, .ref a_day, .ref a_kilos, .ref a_total, .int k_count])), (a_item, .inl (cI, 200, .inl (upd k_item k_count.toNatClampNeg p1))), (a_day, .inl (cI, 200, .inl (upd k_day k_count.toNatClampNeg p2))), (a_kilos, .inl (cI, 200, .inl k_kilos)), (a_total, .inl (cI, 60, .inl k_total))] := hD
  refine lv_aload_n hx hb d_Out_add_20 rfl (lv_at hl 0 rfl) ?_
  refine va_get (D := (dC, dI)) (ci := 5) (v := .ref a_kilos) (C := R_Out) (T := F_Out) (N := 5) hx hb hts zl_Out hown hK hP 0 rfl rfl 2 (by decide) (hts _ zw_33) (fun _ h9 => h9) rfl d_Out_add_21 ?_
  refine lv_aload_n hx hb d_Out_add_24 rfl (lv_at hl 0 rfl) ?_
  refine va_get (D := (dC, dI)) (ci := 5) (v := .int k_count) (C := R_Out) (T := F_Out) (N := 5) hx hb hts zl_Out hown hK hP 0 rfl rfl 4 (by decide) (hts _ zw_31) (fun _ h9 => h9) rfl d_Out_add_25 ?_
  refine lv_iload_n hx hb d_Out_add_28 rfl (lv_at hl 3 rfl) ?_
  refine va_iast hx hb hK hP hD hS 3 0 rfl rfl h.1 d_Out_add_29 (fun H locs hP hD hS => ?_)
  have h := h.2
  have hP : va_P (dC, dI) vwCl [(h0, .inr (5, [.ref a_item, .ref a_day, .ref a_kilos, .ref a_total, .int k_count])), (a_item, .inl (cI, 200, .inl (upd k_item k_count.toNatClampNeg p1))), (a_day, .inl (cI, 200, .inl (upd k_day k_count.toNatClampNeg p2))), (a_kilos, .inl (cI, 200, .inl (upd k_kilos k_count.toNatClampNeg p3))), (a_total, .inl (cI, 60, .inl k_total))] H := hP
  have hD : va_D A [(h0, .inr (5, [.ref a_item, .ref a_day, .ref a_kilos, .ref a_total, .int k_count])), (a_item, .inl (cI, 200, .inl (upd k_item k_count.toNatClampNeg p1))), (a_day, .inl (cI, 200, .inl (upd k_day k_count.toNatClampNeg p2))), (a_kilos, .inl (cI, 200, .inl (upd k_kilos k_count.toNatClampNeg p3))), (a_total, .inl (cI, 60, .inl k_total))] := hD
  refine lv_aload_n hx hb d_Out_add_30 rfl (lv_at hl 0 rfl) ?_
  refine va_get (D := (dC, dI)) (ci := 5) (v := .ref a_total) (C := R_Out) (T := F_Out) (N := 5) hx hb hts zl_Out hown hK hP 0 rfl rfl 3 (by decide) (hts _ zw_34) (fun _ h9 => h9) rfl d_Out_add_31 ?_
  refine lv_iload_n hx hb d_Out_add_34 rfl (lv_at hl 1 rfl) ?_
  refine lv_dup2_11 hx hb d_Out_add_35 rfl rfl ?_
  refine va_iald hx hb hK hP 4 0 rfl rfl h.1 d_Out_add_36 ?_
  have h := h.2
  refine lv_iload_n hx hb d_Out_add_37 rfl (lv_at hl 3 rfl) ?_
  refine lv_iadd hx hb d_Out_add_38 ?_
  refine va_iast hx hb hK hP hD hS 4 0 rfl rfl h.1 d_Out_add_39 (fun H locs hP hD hS => ?_)
  have h := h.2
  have hP : va_P (dC, dI) vwCl [(h0, .inr (5, [.ref a_item, .ref a_day, .ref a_kilos, .ref a_total, .int k_count])), (a_item, .inl (cI, 200, .inl (upd k_item k_count.toNatClampNeg p1))), (a_day, .inl (cI, 200, .inl (upd k_day k_count.toNatClampNeg p2))), (a_kilos, .inl (cI, 200, .inl (upd k_kilos k_count.toNatClampNeg p3))), (a_total, .inl (cI, 60, .inl (upd k_total p1.toNatClampNeg ((k_total p1.toNatClampNeg) + p3))))] H := hP
  have hD : va_D A [(h0, .inr (5, [.ref a_item, .ref a_day, .ref a_kilos, .ref a_total, .int k_count])), (a_item, .inl (cI, 200, .inl (upd k_item k_count.toNatClampNeg p1))), (a_day, .inl (cI, 200, .inl (upd k_day k_count.toNatClampNeg p2))), (a_kilos, .inl (cI, 200, .inl (upd k_kilos k_count.toNatClampNeg p3))), (a_total, .inl (cI, 60, .inl (upd k_total p1.toNatClampNeg ((k_total p1.toNatClampNeg) + p3))))] := hD
  refine lv_aload_n hx hb d_Out_add_40 rfl (lv_at hl 0 rfl) ?_
  refine lv_dup hx hb d_Out_add_41 rfl ?_
  refine va_get (D := (dC, dI)) (ci := 5) (v := .int k_count) (C := R_Out) (T := F_Out) (N := 5) hx hb hts zl_Out hown hK hP 0 rfl rfl 4 (by decide) (hts _ zw_31) (fun _ h9 => h9) rfl d_Out_add_42 ?_
  refine lv_iconst (v := 1) hx hb d_Out_add_45 (by decide) ?_
  refine lv_iadd hx hb d_Out_add_46 ?_
  refine va_put (D := (dC, dI)) (ci := 5) (v := .int (k_count + 1)) (ty := .int) (C := R_Out) (T := F_Out) (N := 5) hx hb hts zl_Out t_Out t_Out_ok n_Out hown hK hP hD hS 0 rfl rfl 4 (by decide) (hts _ zw_31) (fun _ h9 => h9) rfl (by decide +kernel) rfl rfl (Nat.le_of_ble_eq_true rfl) d_Out_add_47 (fun H locs hP hD hS => ?_)
  have hP : va_P (dC, dI) vwCl [(h0, .inr (5, [.ref a_item, .ref a_day, .ref a_kilos, .ref a_total, .int (k_count + 1)])), (a_item, .inl (cI, 200, .inl (upd k_item k_count.toNatClampNeg p1))), (a_day, .inl (cI, 200, .inl (upd k_day k_count.toNatClampNeg p2))), (a_kilos, .inl (cI, 200, .inl (upd k_kilos k_count.toNatClampNeg p3))), (a_total, .inl (cI, 60, .inl (upd k_total p1.toNatClampNeg ((k_total p1.toNatClampNeg) + p3))))] H := hP
  have hD : va_D A [(h0, .inr (5, [.ref a_item, .ref a_day, .ref a_kilos, .ref a_total, .int (k_count + 1)])), (a_item, .inl (cI, 200, .inl (upd k_item k_count.toNatClampNeg p1))), (a_day, .inl (cI, 200, .inl (upd k_day k_count.toNatClampNeg p2))), (a_kilos, .inl (cI, 200, .inl (upd k_kilos k_count.toNatClampNeg p3))), (a_total, .inl (cI, 60, .inl (upd k_total p1.toNatClampNeg ((k_total p1.toNatClampNeg) + p3))))] := hD
  have hP9 := hP.sub (ws' := [(h0, .inr (5, [.ref a_item, .ref a_day, .ref a_kilos, .ref a_total, .int (k_count + 1)])), (a_item, .inl (cI, 200, .inl (upd k_item k_count.toNatClampNeg p1))), (a_day, .inl (cI, 200, .inl (upd k_day k_count.toNatClampNeg p2))), (a_kilos, .inl (cI, 200, .inl (upd k_kilos k_count.toNatClampNeg p3))), (a_total, .inl (cI, 60, .inl (upd k_total p1.toNatClampNeg ((k_total p1.toNatClampNeg) + p3))))]) [0, 1, 2, 3, 4] rfl
  have hD9 := hD.sub (ws' := [(h0, .inr (5, [.ref a_item, .ref a_day, .ref a_kilos, .ref a_total, .int (k_count + 1)])), (a_item, .inl (cI, 200, .inl (upd k_item k_count.toNatClampNeg p1))), (a_day, .inl (cI, 200, .inl (upd k_day k_count.toNatClampNeg p2))), (a_kilos, .inl (cI, 200, .inl (upd k_kilos k_count.toNatClampNeg p3))), (a_total, .inl (cI, 60, .inl (upd k_total p1.toNatClampNeg ((k_total p1.toNatClampNeg) + p3))))]) [0, 1, 2, 3, 4] (by decide) rfl
  exact W.vret hx hb hr (fun t ht hW => ⟨⟨(upd k_item k_count.toNatClampNeg p1, upd k_day k_count.toNatClampNeg p2, upd k_kilos k_count.toNatClampNeg p3, upd k_total p1.toNatClampNeg ((k_total p1.toNatClampNeg) + p3), k_count + 1), rfl, h, by rw [ht]; exact hP9, hD9⟩, hS.F ht⟩) hS.2.2 d_Out_add_50
set_option maxHeartbeats 4000000 in
set_option maxRecDepth 100000 in
theorem zc_Quo_add (l : Launch) (dC : Nat → ClassId) (dI : Nat → Nat → Nat) (cI cZ cL : ClassId) (h0 a_item a_until a_cents a_accepted : Nat) (sz : Nat) (k_item : Nat → Int32) (k_until : Nat → Int32) (k_cents : Nat → Int64) (k_count : Int32) (p1 : Int32) (p2 : Int32) (p3 : Int64) (P : Int32 → (Nat → Int32) → (Nat → Int32) → (Nat → Int64) → Int32 → Prop) (h : zp_Quo_add p1 p2 p3 k_item k_until k_cents k_count P) : Met l y_Quo_add w_Quo_add ({ frames := 0, cells := 0, slots := 0, locals := 0 }) (va_Pc [.ref h0, .int p1, .int p2, .long p3] (fun U => U.heap.size = sz ∧ va_P (dC, dI) vwCl [(h0, .inr (6, [.ref a_item, .ref a_until, .ref a_cents, .ref a_accepted, .int k_count])), (a_item, .inl (cI, 60, .inl k_item)), (a_until, .inl (cI, 60, .inl k_until)), (a_cents, .inl (cL, 60, .inr (.inl k_cents)))] U.heap ∧ va_K (dC, dI) vwCl [(cI, .int), (cZ, .boolean), (cL, .long)] U ∧ va_D (fun _ => True) [(h0, .inr (6, [.ref a_item, .ref a_until, .ref a_cents, .ref a_accepted, .int k_count])), (a_item, .inl (cI, 60, .inl k_item)), (a_until, .inl (cI, 60, .inl k_until)), (a_cents, .inl (cL, 60, .inr (.inl k_cents)))] ∧ zn_ok U)) (va_Qi (fun (r : Int32) (u : (Nat → Int32) × (Nat → Int32) × (Nat → Int64) × Int32) => P r u.1 u.2.1 u.2.2.1 u.2.2.2) (fun u t => va_P (dC, dI) vwCl [(h0, .inr (6, [.ref a_item, .ref a_until, .ref a_cents, .ref a_accepted, .int u.2.2.2])), (a_item, .inl (cI, 60, .inl u.1)), (a_until, .inl (cI, 60, .inl u.2.1)), (a_cents, .inl (cL, 60, .inr (.inl u.2.2.1)))] t.heap ∧ va_D (va_A [(h0, .inr (6, [.ref a_item, .ref a_until, .ref a_cents, .ref a_accepted, .int k_count])), (a_item, .inl (cI, 60, .inl k_item)), (a_until, .inl (cI, 60, .inl k_until)), (a_cents, .inl (cL, 60, .inr (.inl k_cents)))] sz) [(h0, .inr (6, [.ref a_item, .ref a_until, .ref a_cents, .ref a_accepted, .int u.2.2.2])), (a_item, .inl (cI, 60, .inl u.1)), (a_until, .inl (cI, 60, .inl u.2.1)), (a_cents, .inl (cL, 60, .inr (.inl u.2.2.1)))]) (va_A [(h0, .inr (6, [.ref a_item, .ref a_until, .ref a_cents, .ref a_accepted, .int k_count])), (a_item, .inl (cI, 60, .inl k_item)), (a_until, .inl (cI, 60, .inl k_until)), (a_cents, .inl (cL, 60, .inr (.inl k_cents)))] sz)) 0 0 (va_A [(h0, .inr (6, [.ref a_item, .ref a_until, .ref a_cents, .ref a_accepted, .int k_count])), (a_item, .inl (cI, 60, .inl k_item)), (a_until, .inl (cI, 60, .inl k_until)), (a_cents, .inl (cL, 60, .inr (.inl k_cents)))] sz) := by
  refine Met.ofW (cc := b_Quo_add) (maxL := 6) (ret := (some .int)) (by decide) rfl ?_
  intro p e s m args below meth c s₁ B hml hv
  obtain ⟨rfl, hsz, hP, hK, hD0, hN⟩ := hv
  have hx := B.exec
  have hb := B.bytes
  have hr := B.returns
  have hts0 := atoms_spec (ws := w_Quo_add) B.pre
  have hts : ∀ w ∈ zw_T, w.before ([.ref h0, .int p1, .int p2, .long p3] : List Value).toArray s = true := fun w h => hts0 w (List.mem_cons_of_mem _ h)
  have hown : s.vm.findClass R_Quo = some m.cls := findClass_of_methodNamed B.named
  have hlocks := B.notSynchronized
  subst hsz
  have hD := hD0.self (sz := s.heap.size)
  generalize hAe : va_A [(h0, .inr (6, [.ref a_item, .ref a_until, .ref a_cents, .ref a_accepted, .int k_count])), (a_item, .inl (cI, 60, .inl k_item)), (a_until, .inl (cI, 60, .inl k_until)), (a_cents, .inl (cL, 60, .inr (.inl k_cents)))] s.heap.size = A at hD ⊢
  have hA : ∀ q : Nat, s.heap.size ≤ q → A q := fun q h => by rw [← hAe]; exact Or.inr h
  have hS : va_S A s.heap s.heap [] := va_S.rf
  have hl := lv_entry ([.ref h0, .int p1, .int p2, .long p3]) (n := 6) (Nat.le_of_ble_eq_true rfl)
  rw [lg_entry_eq]
  generalize (lg_sl ([.ref h0, .int p1, .int p2, .long p3]) ++ List.replicate (6 - (lg_sl ([.ref h0, .int p1, .int p2, .long p3])).length) Slot.unset).toArray = ls at hl ⊢
  have hl : lv_has ls 6 [(0, .ref h0), (1, .int p1), (2, .int p2), (3, .long p3)] := hl
  unfold zp_Quo_add at h
  refine lv_aload_n hx hb d_Quo_add_0 rfl (lv_at hl 0 rfl) ?_
  refine va_get (D := (dC, dI)) (ci := 6) (v := .int k_count) (C := R_Quo) (T := F_Quo) (N := 5) hx hb hts zl_Quo hown hK hP 0 rfl rfl 4 (by decide) (hts _ zw_35) (fun _ h9 => h9) rfl d_Quo_add_1 ?_
  refine lv_istore (lv' := [(5, .int k_count), (0, .ref h0), (1, .int p1), (2, .int p2), (3, .long p3)]) hx hb d_Quo_add_4 hl (by decide) rfl (fun ls hl => ?_)
  refine lv_aload_n hx hb d_Quo_add_6 rfl (lv_at hl 1 rfl) ?_
  refine va_get (D := (dC, dI)) (ci := 6) (v := .ref a_item) (C := R_Quo) (T := F_Quo) (N := 5) hx hb hts zl_Quo hown hK hP 0 rfl rfl 0 (by decide) (hts _ zw_36) (fun _ h9 => h9) rfl d_Quo_add_7 ?_
  refine lv_iload hx hb d_Quo_add_10 (lv_at hl 0 rfl) ?_
  refine lv_iload_n hx hb d_Quo_add_12 rfl (lv_at hl 2 rfl) ?_
  refine va_iast hx hb hK hP hD hS 1 0 rfl rfl h.1 d_Quo_add_13 (fun H locs hP hD hS => ?_)
  have h := h.2
  have hP : va_P (dC, dI) vwCl [(h0, .inr (6, [.ref a_item, .ref a_until, .ref a_cents, .ref a_accepted, .int k_count])), (a_item, .inl (cI, 60, .inl (upd k_item k_count.toNatClampNeg p1))), (a_until, .inl (cI, 60, .inl k_until)), (a_cents, .inl (cL, 60, .inr (.inl k_cents)))] H := hP
  have hD : va_D A [(h0, .inr (6, [.ref a_item, .ref a_until, .ref a_cents, .ref a_accepted, .int k_count])), (a_item, .inl (cI, 60, .inl (upd k_item k_count.toNatClampNeg p1))), (a_until, .inl (cI, 60, .inl k_until)), (a_cents, .inl (cL, 60, .inr (.inl k_cents)))] := hD
  refine lv_aload_n hx hb d_Quo_add_14 rfl (lv_at hl 1 rfl) ?_
  refine va_get (D := (dC, dI)) (ci := 6) (v := .ref a_until) (C := R_Quo) (T := F_Quo) (N := 5) hx hb hts zl_Quo hown hK hP 0 rfl rfl 1 (by decide) (hts _ zw_37) (fun _ h9 => h9) rfl d_Quo_add_15 ?_
  refine lv_iload hx hb d_Quo_add_18 (lv_at hl 0 rfl) ?_
  refine lv_iload_n hx hb d_Quo_add_20 rfl (lv_at hl 3 rfl) ?_
  refine va_iast hx hb hK hP hD hS 2 0 rfl rfl h.1 d_Quo_add_21 (fun H locs hP hD hS => ?_)
  have h := h.2
  have hP : va_P (dC, dI) vwCl [(h0, .inr (6, [.ref a_item, .ref a_until, .ref a_cents, .ref a_accepted, .int k_count])), (a_item, .inl (cI, 60, .inl (upd k_item k_count.toNatClampNeg p1))), (a_until, .inl (cI, 60, .inl (upd k_until k_count.toNatClampNeg p2))), (a_cents, .inl (cL, 60, .inr (.inl k_cents)))] H := hP
  have hD : va_D A [(h0, .inr (6, [.ref a_item, .ref a_until, .ref a_cents, .ref a_accepted, .int k_count])), (a_item, .inl (cI, 60, .inl (upd k_item k_count.toNatClampNeg p1))), (a_until, .inl (cI, 60, .inl (upd k_until k_count.toNatClampNeg p2))), (a_cents, .inl (cL, 60, .inr (.inl k_cents)))] := hD
  refine lv_aload_n hx hb d_Quo_add_22 rfl (lv_at hl 1 rfl) ?_
  refine va_get (D := (dC, dI)) (ci := 6) (v := .ref a_cents) (C := R_Quo) (T := F_Quo) (N := 5) hx hb hts zl_Quo hown hK hP 0 rfl rfl 2 (by decide) (hts _ zw_38) (fun _ h9 => h9) rfl d_Quo_add_23 ?_
  refine lv_iload hx hb d_Quo_add_26 (lv_at hl 0 rfl) ?_
  refine lv_lload_n hx hb d_Quo_add_28 rfl (lv_at hl 4 rfl) ?_
  refine va_last hx hb hK hP hD hS 3 2 rfl rfl h.1 d_Quo_add_29 (fun H locs hP hD hS => ?_)
  have h := h.2
  have hP : va_P (dC, dI) vwCl [(h0, .inr (6, [.ref a_item, .ref a_until, .ref a_cents, .ref a_accepted, .int k_count])), (a_item, .inl (cI, 60, .inl (upd k_item k_count.toNatClampNeg p1))), (a_until, .inl (cI, 60, .inl (upd k_until k_count.toNatClampNeg p2))), (a_cents, .inl (cL, 60, .inr (.inl (vp_updL k_cents k_count.toNatClampNeg p3))))] H := hP
  have hD : va_D A [(h0, .inr (6, [.ref a_item, .ref a_until, .ref a_cents, .ref a_accepted, .int k_count])), (a_item, .inl (cI, 60, .inl (upd k_item k_count.toNatClampNeg p1))), (a_until, .inl (cI, 60, .inl (upd k_until k_count.toNatClampNeg p2))), (a_cents, .inl (cL, 60, .inr (.inl (vp_updL k_cents k_count.toNatClampNeg p3))))] := hD
  refine lv_aload_n hx hb d_Quo_add_30 rfl (lv_at hl 1 rfl) ?_
  refine lv_dup hx hb d_Quo_add_31 rfl ?_
  refine va_get (D := (dC, dI)) (ci := 6) (v := .int k_count) (C := R_Quo) (T := F_Quo) (N := 5) hx hb hts zl_Quo hown hK hP 0 rfl rfl 4 (by decide) (hts _ zw_35) (fun _ h9 => h9) rfl d_Quo_add_32 ?_
  refine lv_iconst (v := 1) hx hb d_Quo_add_35 (by decide) ?_
  refine lv_iadd hx hb d_Quo_add_36 ?_
  refine va_put (D := (dC, dI)) (ci := 6) (v := .int (k_count + 1)) (ty := .int) (C := R_Quo) (T := F_Quo) (N := 5) hx hb hts zl_Quo t_Quo t_Quo_ok n_Quo hown hK hP hD hS 0 rfl rfl 4 (by decide) (hts _ zw_35) (fun _ h9 => h9) rfl (by decide +kernel) rfl rfl (Nat.le_of_ble_eq_true rfl) d_Quo_add_37 (fun H locs hP hD hS => ?_)
  have hP : va_P (dC, dI) vwCl [(h0, .inr (6, [.ref a_item, .ref a_until, .ref a_cents, .ref a_accepted, .int (k_count + 1)])), (a_item, .inl (cI, 60, .inl (upd k_item k_count.toNatClampNeg p1))), (a_until, .inl (cI, 60, .inl (upd k_until k_count.toNatClampNeg p2))), (a_cents, .inl (cL, 60, .inr (.inl (vp_updL k_cents k_count.toNatClampNeg p3))))] H := hP
  have hD : va_D A [(h0, .inr (6, [.ref a_item, .ref a_until, .ref a_cents, .ref a_accepted, .int (k_count + 1)])), (a_item, .inl (cI, 60, .inl (upd k_item k_count.toNatClampNeg p1))), (a_until, .inl (cI, 60, .inl (upd k_until k_count.toNatClampNeg p2))), (a_cents, .inl (cL, 60, .inr (.inl (vp_updL k_cents k_count.toNatClampNeg p3))))] := hD
  refine lv_iload hx hb d_Quo_add_40 (lv_at hl 0 rfl) ?_
  have hP9 := hP.sub (ws' := [(h0, .inr (6, [.ref a_item, .ref a_until, .ref a_cents, .ref a_accepted, .int (k_count + 1)])), (a_item, .inl (cI, 60, .inl (upd k_item k_count.toNatClampNeg p1))), (a_until, .inl (cI, 60, .inl (upd k_until k_count.toNatClampNeg p2))), (a_cents, .inl (cL, 60, .inr (.inl (vp_updL k_cents k_count.toNatClampNeg p3))))]) [0, 1, 2, 3] rfl
  have hD9 := hD.sub (ws' := [(h0, .inr (6, [.ref a_item, .ref a_until, .ref a_cents, .ref a_accepted, .int (k_count + 1)])), (a_item, .inl (cI, 60, .inl (upd k_item k_count.toNatClampNeg p1))), (a_until, .inl (cI, 60, .inl (upd k_until k_count.toNatClampNeg p2))), (a_cents, .inl (cL, 60, .inr (.inl (vp_updL k_cents k_count.toNatClampNeg p3))))]) [0, 1, 2, 3] (by decide) rfl
  exact W.iret (v := k_count) hx hb hr (fun t ht hW => ⟨⟨k_count, (upd k_item k_count.toNatClampNeg p1, upd k_until k_count.toNatClampNeg p2, vp_updL k_cents k_count.toNatClampNeg p3, k_count + 1), rfl, h, by rw [ht]; exact hP9, hD9⟩, hS.F ht⟩) hS.2.2 d_Quo_add_42
set_option maxHeartbeats 4000000 in
set_option maxRecDepth 100000 in
theorem zc_Rat_set (l : Launch) (dC : Nat → ClassId) (dI : Nat → Nat → Nat) (cI cZ cL : ClassId) (h0 : Nat) (sz : Nat) (k_base : Int32) (k_perThousand : Int32) (k_perWidth : Int32) (p1 : Int32) (p2 : Int32) (p3 : Int32) (P : Int32 → Int32 → Int32 → Prop) (h : zp_Rat_set p1 p2 p3 k_base k_perThousand k_perWidth P) : Met l y_Rat_set w_Rat_set ({ frames := 0, cells := 0, slots := 0, locals := 0 }) (va_Pc [.ref h0, .int p1, .int p2, .int p3] (fun U => U.heap.size = sz ∧ va_P (dC, dI) vwCl [(h0, .inr (7, [.int k_base, .int k_perThousand, .int k_perWidth]))] U.heap ∧ va_K (dC, dI) vwCl [(cI, .int), (cZ, .boolean), (cL, .long)] U ∧ va_D (fun _ => True) [(h0, .inr (7, [.int k_base, .int k_perThousand, .int k_perWidth]))] ∧ zn_ok U)) (va_Qv (fun (u : Int32 × Int32 × Int32) => P u.1 u.2.1 u.2.2) (fun u t => va_P (dC, dI) vwCl [(h0, .inr (7, [.int u.1, .int u.2.1, .int u.2.2]))] t.heap ∧ va_D (va_A [(h0, .inr (7, [.int k_base, .int k_perThousand, .int k_perWidth]))] sz) [(h0, .inr (7, [.int u.1, .int u.2.1, .int u.2.2]))]) (va_A [(h0, .inr (7, [.int k_base, .int k_perThousand, .int k_perWidth]))] sz)) 0 0 (va_A [(h0, .inr (7, [.int k_base, .int k_perThousand, .int k_perWidth]))] sz) := by
  refine Met.ofW (cc := b_Rat_set) (maxL := 4) (ret := none) (by decide) rfl ?_
  intro p e s m args below meth c s₁ B hml hv
  obtain ⟨rfl, hsz, hP, hK, hD0, hN⟩ := hv
  have hx := B.exec
  have hb := B.bytes
  have hr := B.returns
  have hts0 := atoms_spec (ws := w_Rat_set) B.pre
  have hts : ∀ w ∈ zw_T, w.before ([.ref h0, .int p1, .int p2, .int p3] : List Value).toArray s = true := fun w h => hts0 w (List.mem_cons_of_mem _ h)
  have hown : s.vm.findClass R_Rat = some m.cls := findClass_of_methodNamed B.named
  have hlocks := B.notSynchronized
  subst hsz
  have hD := hD0.self (sz := s.heap.size)
  generalize hAe : va_A [(h0, .inr (7, [.int k_base, .int k_perThousand, .int k_perWidth]))] s.heap.size = A at hD ⊢
  have hA : ∀ q : Nat, s.heap.size ≤ q → A q := fun q h => by rw [← hAe]; exact Or.inr h
  have hS : va_S A s.heap s.heap [] := va_S.rf
  have hl := lv_entry ([.ref h0, .int p1, .int p2, .int p3]) (n := 4) (Nat.le_of_ble_eq_true rfl)
  rw [lg_entry_eq]
  generalize (lg_sl ([.ref h0, .int p1, .int p2, .int p3]) ++ List.replicate (4 - (lg_sl ([.ref h0, .int p1, .int p2, .int p3])).length) Slot.unset).toArray = ls at hl ⊢
  have hl : lv_has ls 4 [(0, .ref h0), (1, .int p1), (2, .int p2), (3, .int p3)] := hl
  unfold zp_Rat_set at h
  refine lv_aload_n hx hb d_Rat_set_0 rfl (lv_at hl 0 rfl) ?_
  refine lv_iload_n hx hb d_Rat_set_1 rfl (lv_at hl 1 rfl) ?_
  refine va_put (D := (dC, dI)) (ci := 7) (v := .int p1) (ty := .int) (C := R_Rat) (T := F_Rat) (N := 3) hx hb hts zl_Rat t_Rat t_Rat_ok n_Rat hown hK hP hD hS 0 rfl rfl 0 (by decide) (hts _ zw_40) (fun _ h9 => h9) rfl (by decide +kernel) rfl rfl (Nat.le_of_ble_eq_true rfl) d_Rat_set_2 (fun H locs hP hD hS => ?_)
  have hP : va_P (dC, dI) vwCl [(h0, .inr (7, [.int p1, .int k_perThousand, .int k_perWidth]))] H := hP
  have hD : va_D A [(h0, .inr (7, [.int p1, .int k_perThousand, .int k_perWidth]))] := hD
  refine lv_aload_n hx hb d_Rat_set_5 rfl (lv_at hl 0 rfl) ?_
  refine lv_iload_n hx hb d_Rat_set_6 rfl (lv_at hl 2 rfl) ?_
  refine va_put (D := (dC, dI)) (ci := 7) (v := .int p2) (ty := .int) (C := R_Rat) (T := F_Rat) (N := 3) hx hb hts zl_Rat t_Rat t_Rat_ok n_Rat hown hK hP hD hS 0 rfl rfl 1 (by decide) (hts _ zw_41) (fun _ h9 => h9) rfl (by decide +kernel) rfl rfl (Nat.le_of_ble_eq_true rfl) d_Rat_set_7 (fun H locs hP hD hS => ?_)
  have hP : va_P (dC, dI) vwCl [(h0, .inr (7, [.int p1, .int p2, .int k_perWidth]))] H := hP
  have hD : va_D A [(h0, .inr (7, [.int p1, .int p2, .int k_perWidth]))] := hD
  refine lv_aload_n hx hb d_Rat_set_10 rfl (lv_at hl 0 rfl) ?_
  refine lv_iload_n hx hb d_Rat_set_11 rfl (lv_at hl 3 rfl) ?_
  refine va_put (D := (dC, dI)) (ci := 7) (v := .int p3) (ty := .int) (C := R_Rat) (T := F_Rat) (N := 3) hx hb hts zl_Rat t_Rat t_Rat_ok n_Rat hown hK hP hD hS 0 rfl rfl 2 (by decide) (hts _ zw_42) (fun _ h9 => h9) rfl (by decide +kernel) rfl rfl (Nat.le_of_ble_eq_true rfl) d_Rat_set_12 (fun H locs hP hD hS => ?_)
  have hP : va_P (dC, dI) vwCl [(h0, .inr (7, [.int p1, .int p2, .int p3]))] H := hP
  have hD : va_D A [(h0, .inr (7, [.int p1, .int p2, .int p3]))] := hD
  have hP9 := hP.sub (ws' := [(h0, .inr (7, [.int p1, .int p2, .int p3]))]) [0] rfl
  have hD9 := hD.sub (ws' := [(h0, .inr (7, [.int p1, .int p2, .int p3]))]) [0] (by decide) rfl
  exact W.vret hx hb hr (fun t ht hW => ⟨⟨(p1, p2, p3), rfl, h, by rw [ht]; exact hP9, hD9⟩, hS.F ht⟩) hS.2.2 d_Rat_set_15
set_option maxHeartbeats 4000000 in
set_option maxRecDepth 100000 in
theorem zc_Or_copyOfToday (l : Launch) (dC : Nat → ClassId) (dI : Nat → Nat → Nat) (cI cZ cL : ClassId) (h0 a_orders a_items a_changes a_outputs a_rates a_quotes a_accounts a_calendar a_items_orderOf a_items_agreedRule a_items_first a_changes_field a_changes_value a_changes_from a_changes_told a_changes_count : Nat) (sz : Nat) (k_items_orderOf : Nat → Int32) (k_items_first : Nat → Int32) (k_items_count : Int32) (k_changes_field : Nat → Int32) (k_changes_value : Nat → Int32) (k_changes_from : Nat → Int32) (k_changes_count : Nat → Int32) (k_today : Int32) (p1 : Int32) (P : Int32 → (Nat → Int32) → (Nat → Int32) → Int32 → Prop) (h : zp_Or_copyOfToday p1 k_items_orderOf k_items_first k_items_count k_changes_field k_changes_value k_changes_from k_changes_count k_today P) : Met l y_Or_copyOfToday w_Or_copyOfToday ({ frames := 3, cells := 0, slots := 0, locals := 74 }) (va_Pc [.ref h0, .int p1] (fun U => U.heap.size = sz ∧ va_P (dC, dI) vwCl [(h0, .inr (8, [.ref a_orders, .ref a_items, .ref a_changes, .ref a_outputs, .ref a_rates, .ref a_quotes, .ref a_accounts, .ref a_calendar, .int k_today])), (a_items, .inr (3, [.ref a_items_orderOf, .ref a_items_agreedRule, .ref a_items_first, .int k_items_count])), (a_items_orderOf, .inl (cI, 60, .inl k_items_orderOf)), (a_items_first, .inl (cI, 360, .inl k_items_first)), (a_changes, .inr (2, [.ref a_changes_field, .ref a_changes_value, .ref a_changes_from, .ref a_changes_told, .ref a_changes_count])), (a_changes_field, .inl (cI, 1200, .inl k_changes_field)), (a_changes_value, .inl (cI, 1200, .inl k_changes_value)), (a_changes_from, .inl (cI, 1200, .inl k_changes_from)), (a_changes_count, .inl (cI, 60, .inl k_changes_count))] U.heap ∧ va_K (dC, dI) vwCl [(cI, .int), (cZ, .boolean), (cL, .long)] U ∧ va_D (fun _ => True) [(h0, .inr (8, [.ref a_orders, .ref a_items, .ref a_changes, .ref a_outputs, .ref a_rates, .ref a_quotes, .ref a_accounts, .ref a_calendar, .int k_today])), (a_items, .inr (3, [.ref a_items_orderOf, .ref a_items_agreedRule, .ref a_items_first, .int k_items_count])), (a_items_orderOf, .inl (cI, 60, .inl k_items_orderOf)), (a_items_first, .inl (cI, 360, .inl k_items_first)), (a_changes, .inr (2, [.ref a_changes_field, .ref a_changes_value, .ref a_changes_from, .ref a_changes_told, .ref a_changes_count])), (a_changes_field, .inl (cI, 1200, .inl k_changes_field)), (a_changes_value, .inl (cI, 1200, .inl k_changes_value)), (a_changes_from, .inl (cI, 1200, .inl k_changes_from)), (a_changes_count, .inl (cI, 60, .inl k_changes_count))] ∧ zn_ok U)) (va_Qi (fun (r : Int32) (u : (Nat → Int32) × (Nat → Int32) × Int32) => P r u.1 u.2.1 u.2.2) (fun u t => va_P (dC, dI) vwCl [(h0, .inr (8, [.ref a_orders, .ref a_items, .ref a_changes, .ref a_outputs, .ref a_rates, .ref a_quotes, .ref a_accounts, .ref a_calendar, .int k_today])), (a_items, .inr (3, [.ref a_items_orderOf, .ref a_items_agreedRule, .ref a_items_first, .int u.2.2])), (a_items_orderOf, .inl (cI, 60, .inl u.1)), (a_items_first, .inl (cI, 360, .inl u.2.1)), (a_changes, .inr (2, [.ref a_changes_field, .ref a_changes_value, .ref a_changes_from, .ref a_changes_told, .ref a_changes_count])), (a_changes_field, .inl (cI, 1200, .inl k_changes_field)), (a_changes_value, .inl (cI, 1200, .inl k_changes_value)), (a_changes_from, .inl (cI, 1200, .inl k_changes_from)), (a_changes_count, .inl (cI, 60, .inl k_changes_count))] t.heap ∧ va_D (va_A [(h0, .inr (8, [.ref a_orders, .ref a_items, .ref a_changes, .ref a_outputs, .ref a_rates, .ref a_quotes, .ref a_accounts, .ref a_calendar, .int k_today])), (a_items, .inr (3, [.ref a_items_orderOf, .ref a_items_agreedRule, .ref a_items_first, .int k_items_count])), (a_items_orderOf, .inl (cI, 60, .inl k_items_orderOf)), (a_items_first, .inl (cI, 360, .inl k_items_first)), (a_changes, .inr (2, [.ref a_changes_field, .ref a_changes_value, .ref a_changes_from, .ref a_changes_told, .ref a_changes_count])), (a_changes_field, .inl (cI, 1200, .inl k_changes_field)), (a_changes_value, .inl (cI, 1200, .inl k_changes_value)), (a_changes_from, .inl (cI, 1200, .inl k_changes_from)), (a_changes_count, .inl (cI, 60, .inl k_changes_count))] sz) [(h0, .inr (8, [.ref a_orders, .ref a_items, .ref a_changes, .ref a_outputs, .ref a_rates, .ref a_quotes, .ref a_accounts, .ref a_calendar, .int k_today])), (a_items, .inr (3, [.ref a_items_orderOf, .ref a_items_agreedRule, .ref a_items_first, .int u.2.2])), (a_items_orderOf, .inl (cI, 60, .inl u.1)), (a_items_first, .inl (cI, 360, .inl u.2.1)), (a_changes, .inr (2, [.ref a_changes_field, .ref a_changes_value, .ref a_changes_from, .ref a_changes_told, .ref a_changes_count])), (a_changes_field, .inl (cI, 1200, .inl k_changes_field)), (a_changes_value, .inl (cI, 1200, .inl k_changes_value)), (a_changes_from, .inl (cI, 1200, .inl k_changes_from)), (a_changes_count, .inl (cI, 60, .inl k_changes_count))]) (va_A [(h0, .inr (8, [.ref a_orders, .ref a_items, .ref a_changes, .ref a_outputs, .ref a_rates, .ref a_quotes, .ref a_accounts, .ref a_calendar, .int k_today])), (a_items, .inr (3, [.ref a_items_orderOf, .ref a_items_agreedRule, .ref a_items_first, .int k_items_count])), (a_items_orderOf, .inl (cI, 60, .inl k_items_orderOf)), (a_items_first, .inl (cI, 360, .inl k_items_first)), (a_changes, .inr (2, [.ref a_changes_field, .ref a_changes_value, .ref a_changes_from, .ref a_changes_told, .ref a_changes_count])), (a_changes_field, .inl (cI, 1200, .inl k_changes_field)), (a_changes_value, .inl (cI, 1200, .inl k_changes_value)), (a_changes_from, .inl (cI, 1200, .inl k_changes_from)), (a_changes_count, .inl (cI, 60, .inl k_changes_count))] sz)) 0 0 (va_A [(h0, .inr (8, [.ref a_orders, .ref a_items, .ref a_changes, .ref a_outputs, .ref a_rates, .ref a_quotes, .ref a_accounts, .ref a_calendar, .int k_today])), (a_items, .inr (3, [.ref a_items_orderOf, .ref a_items_agreedRule, .ref a_items_first, .int k_items_count])), (a_items_orderOf, .inl (cI, 60, .inl k_items_orderOf)), (a_items_first, .inl (cI, 360, .inl k_items_first)), (a_changes, .inr (2, [.ref a_changes_field, .ref a_changes_value, .ref a_changes_from, .ref a_changes_told, .ref a_changes_count])), (a_changes_field, .inl (cI, 1200, .inl k_changes_field)), (a_changes_value, .inl (cI, 1200, .inl k_changes_value)), (a_changes_from, .inl (cI, 1200, .inl k_changes_from)), (a_changes_count, .inl (cI, 60, .inl k_changes_count))] sz) := by
  refine Met.ofW (cc := b_Or_copyOfToday) (maxL := 4) (ret := (some .int)) (by decide) rfl ?_
  intro p e s m args below meth c s₁ B hml hv
  obtain ⟨rfl, hsz, hP, hK, hD0, hN⟩ := hv
  have hx := B.exec
  have hb := B.bytes
  have hr := B.returns
  have hts0 := atoms_spec (ws := w_Or_copyOfToday) B.pre
  have hts : ∀ w ∈ zw_T, w.before ([.ref h0, .int p1] : List Value).toArray s = true := fun w h => hts0 w (List.mem_cons_of_mem _ h)
  have hown : s.vm.findClass R_Or = some m.cls := findClass_of_methodNamed B.named
  have hlocks := B.notSynchronized
  subst hsz
  have hD := hD0.self (sz := s.heap.size)
  generalize hAe : va_A [(h0, .inr (8, [.ref a_orders, .ref a_items, .ref a_changes, .ref a_outputs, .ref a_rates, .ref a_quotes, .ref a_accounts, .ref a_calendar, .int k_today])), (a_items, .inr (3, [.ref a_items_orderOf, .ref a_items_agreedRule, .ref a_items_first, .int k_items_count])), (a_items_orderOf, .inl (cI, 60, .inl k_items_orderOf)), (a_items_first, .inl (cI, 360, .inl k_items_first)), (a_changes, .inr (2, [.ref a_changes_field, .ref a_changes_value, .ref a_changes_from, .ref a_changes_told, .ref a_changes_count])), (a_changes_field, .inl (cI, 1200, .inl k_changes_field)), (a_changes_value, .inl (cI, 1200, .inl k_changes_value)), (a_changes_from, .inl (cI, 1200, .inl k_changes_from)), (a_changes_count, .inl (cI, 60, .inl k_changes_count))] s.heap.size = A at hD ⊢
  have hA : ∀ q : Nat, s.heap.size ≤ q → A q := fun q h => by rw [← hAe]; exact Or.inr h
  have hS : va_S A s.heap s.heap [] := va_S.rf
  have hl := lv_entry ([.ref h0, .int p1]) (n := 4) (Nat.le_of_ble_eq_true rfl)
  rw [lg_entry_eq]
  generalize (lg_sl ([.ref h0, .int p1]) ++ List.replicate (4 - (lg_sl ([.ref h0, .int p1])).length) Slot.unset).toArray = ls at hl ⊢
  have hl : lv_has ls 4 [(0, .ref h0), (1, .int p1)] := hl
  have B19 : ∀ (v2 : Int32) (k_items_orderOf : Nat → Int32) (k_items_count : Int32), ∀ (n : Nat) (v3 : Int32) (k_items_first : Nat → Int32), ∀ (H : Heap) (locs : List Loc) (ls : Array Slot), zp_Or_copyOfToday_19 p1 k_changes_field k_changes_value k_changes_from k_changes_count k_today P v2 k_items_orderOf k_items_count n v3 k_items_first → va_P (dC, dI) vwCl [(h0, .inr (8, [.ref a_orders, .ref a_items, .ref a_changes, .ref a_outputs, .ref a_rates, .ref a_quotes, .ref a_accounts, .ref a_calendar, .int k_today])), (a_items, .inr (3, [.ref a_items_orderOf, .ref a_items_agreedRule, .ref a_items_first, .int k_items_count])), (a_items_orderOf, .inl (cI, 60, .inl k_items_orderOf)), (a_items_first, .inl (cI, 360, .inl k_items_first)), (a_changes, .inr (2, [.ref a_changes_field, .ref a_changes_value, .ref a_changes_from, .ref a_changes_told, .ref a_changes_count])), (a_changes_field, .inl (cI, 1200, .inl k_changes_field)), (a_changes_value, .inl (cI, 1200, .inl k_changes_value)), (a_changes_from, .inl (cI, 1200, .inl k_changes_from)), (a_changes_count, .inl (cI, 60, .inl k_changes_count))] H → va_D A [(h0, .inr (8, [.ref a_orders, .ref a_items, .ref a_changes, .ref a_outputs, .ref a_rates, .ref a_quotes, .ref a_accounts, .ref a_calendar, .int k_today])), (a_items, .inr (3, [.ref a_items_orderOf, .ref a_items_agreedRule, .ref a_items_first, .int k_items_count])), (a_items_orderOf, .inl (cI, 60, .inl k_items_orderOf)), (a_items_first, .inl (cI, 360, .inl k_items_first)), (a_changes, .inr (2, [.ref a_changes_field, .ref a_changes_value, .ref a_changes_from, .ref a_changes_told, .ref a_changes_count])), (a_changes_field, .inl (cI, 1200, .inl k_changes_field)), (a_changes_value, .inl (cI, 1200, .inl k_changes_value)), (a_changes_from, .inl (cI, 1200, .inl k_changes_from)), (a_changes_count, .inl (cI, 60, .inl k_changes_count))] → va_S A s.heap H locs → lv_has ls 4 [(0, .ref h0), (1, .int p1), (2, .int v2), (3, .int v3)] → W p l e (headSpec w_Or_copyOfToday ({ frames := 3, cells := 0, slots := 0, locals := 74 })).room s m ([.ref h0, .int p1] : List Value).toArray below meth c H locs 0 0 (MQ below (va_Qi (fun (r : Int32) (u : (Nat → Int32) × (Nat → Int32) × Int32) => P r u.1 u.2.1 u.2.2) (fun u t => va_P (dC, dI) vwCl [(h0, .inr (8, [.ref a_orders, .ref a_items, .ref a_changes, .ref a_outputs, .ref a_rates, .ref a_quotes, .ref a_accounts, .ref a_calendar, .int k_today])), (a_items, .inr (3, [.ref a_items_orderOf, .ref a_items_agreedRule, .ref a_items_first, .int u.2.2])), (a_items_orderOf, .inl (cI, 60, .inl u.1)), (a_items_first, .inl (cI, 360, .inl u.2.1)), (a_changes, .inr (2, [.ref a_changes_field, .ref a_changes_value, .ref a_changes_from, .ref a_changes_told, .ref a_changes_count])), (a_changes_field, .inl (cI, 1200, .inl k_changes_field)), (a_changes_value, .inl (cI, 1200, .inl k_changes_value)), (a_changes_from, .inl (cI, 1200, .inl k_changes_from)), (a_changes_count, .inl (cI, 60, .inl k_changes_count))] t.heap ∧ va_D A [(h0, .inr (8, [.ref a_orders, .ref a_items, .ref a_changes, .ref a_outputs, .ref a_rates, .ref a_quotes, .ref a_accounts, .ref a_calendar, .int k_today])), (a_items, .inr (3, [.ref a_items_orderOf, .ref a_items_agreedRule, .ref a_items_first, .int u.2.2])), (a_items_orderOf, .inl (cI, 60, .inl u.1)), (a_items_first, .inl (cI, 360, .inl u.2.1)), (a_changes, .inr (2, [.ref a_changes_field, .ref a_changes_value, .ref a_changes_from, .ref a_changes_told, .ref a_changes_count])), (a_changes_field, .inl (cI, 1200, .inl k_changes_field)), (a_changes_value, .inl (cI, 1200, .inl k_changes_value)), (a_changes_from, .inl (cI, 1200, .inl k_changes_from)), (a_changes_count, .inl (cI, 60, .inl k_changes_count))]) A) ([.ref h0, .int p1] : List Value).toArray s 0 0 A) (F0 m 19 ls []) := by
    intro v2 k_items_orderOf k_items_count
    intro n
    induction n with
    | zero =>
      intro v3 k_items_first H locs ls h hP hD hS hl
      exact h.elim
    | succ n ih =>
      intro v3 k_items_first H locs ls h hP hD hS hl
      unfold zp_Or_copyOfToday_19 at h
      refine lv_iload_n hx hb d_Or_copyOfToday_19 rfl (lv_at hl 3 rfl) ?_
      refine lv_bipush (v := 6) hx hb d_Or_copyOfToday_20 (by decide) ?_
      refine lv_icmp_ge (tgt := 50) hx hb d_Or_copyOfToday_22 (by decide) (fun c1 => ?_) (fun c1 => ?_)
      · have h := h.1 c1
        refine lv_iload_n hx hb d_Or_copyOfToday_50 rfl (lv_at hl 2 rfl) ?_
        have hP9 := hP.sub (ws' := [(h0, .inr (8, [.ref a_orders, .ref a_items, .ref a_changes, .ref a_outputs, .ref a_rates, .ref a_quotes, .ref a_accounts, .ref a_calendar, .int k_today])), (a_items, .inr (3, [.ref a_items_orderOf, .ref a_items_agreedRule, .ref a_items_first, .int k_items_count])), (a_items_orderOf, .inl (cI, 60, .inl k_items_orderOf)), (a_items_first, .inl (cI, 360, .inl k_items_first)), (a_changes, .inr (2, [.ref a_changes_field, .ref a_changes_value, .ref a_changes_from, .ref a_changes_told, .ref a_changes_count])), (a_changes_field, .inl (cI, 1200, .inl k_changes_field)), (a_changes_value, .inl (cI, 1200, .inl k_changes_value)), (a_changes_from, .inl (cI, 1200, .inl k_changes_from)), (a_changes_count, .inl (cI, 60, .inl k_changes_count))]) [0, 1, 2, 3, 4, 5, 6, 7, 8] rfl
        have hD9 := hD.sub (ws' := [(h0, .inr (8, [.ref a_orders, .ref a_items, .ref a_changes, .ref a_outputs, .ref a_rates, .ref a_quotes, .ref a_accounts, .ref a_calendar, .int k_today])), (a_items, .inr (3, [.ref a_items_orderOf, .ref a_items_agreedRule, .ref a_items_first, .int k_items_count])), (a_items_orderOf, .inl (cI, 60, .inl k_items_orderOf)), (a_items_first, .inl (cI, 360, .inl k_items_first)), (a_changes, .inr (2, [.ref a_changes_field, .ref a_changes_value, .ref a_changes_from, .ref a_changes_told, .ref a_changes_count])), (a_changes_field, .inl (cI, 1200, .inl k_changes_field)), (a_changes_value, .inl (cI, 1200, .inl k_changes_value)), (a_changes_from, .inl (cI, 1200, .inl k_changes_from)), (a_changes_count, .inl (cI, 60, .inl k_changes_count))]) [0, 1, 2, 3, 4, 5, 6, 7, 8] (by decide) rfl
        exact W.iret (v := v2) hx hb hr (fun t ht hW => ⟨⟨v2, (k_items_orderOf, k_items_first, k_items_count), rfl, h, by rw [ht]; exact hP9, hD9⟩, hS.F ht⟩) hS.2.2 d_Or_copyOfToday_51
      · have h := h.2 c1
        refine lv_aload_n hx hb d_Or_copyOfToday_25 rfl (lv_at hl 0 rfl) ?_
        refine va_get (D := (dC, dI)) (ci := 8) (v := .ref a_items) (C := R_Or) (T := F_Or) (N := 9) hx hb hts zl_Or hown hK hP 0 rfl rfl 1 (by decide) (hts _ zw_73) (fun _ h9 => h9) rfl d_Or_copyOfToday_26 ?_
        refine lv_iload_n hx hb d_Or_copyOfToday_29 rfl (lv_at hl 2 rfl) ?_
        refine lv_iload_n hx hb d_Or_copyOfToday_30 rfl (lv_at hl 3 rfl) ?_
        refine lv_aload_n hx hb d_Or_copyOfToday_31 rfl (lv_at hl 0 rfl) ?_
        refine lv_iload_n hx hb d_Or_copyOfToday_32 rfl (lv_at hl 1 rfl) ?_
        refine lv_iload_n hx hb d_Or_copyOfToday_33 rfl (lv_at hl 3 rfl) ?_
        refine lv_aload_n hx hb d_Or_copyOfToday_34 rfl (lv_at hl 0 rfl) ?_
        refine va_get (D := (dC, dI)) (ci := 8) (v := .int k_today) (C := R_Or) (T := F_Or) (N := 9) hx hb hts zl_Or hown hK hP 0 rfl rfl 8 (by decide) (hts _ zw_47) (fun _ h9 => h9) rfl d_Or_copyOfToday_35 ?_
        have hPc := hP.sub (ws' := [(h0, .inr (8, [.ref a_orders, .ref a_items, .ref a_changes, .ref a_outputs, .ref a_rates, .ref a_quotes, .ref a_accounts, .ref a_calendar, .int k_today])), (a_items, .inr (3, [.ref a_items_orderOf, .ref a_items_agreedRule, .ref a_items_first, .int k_items_count])), (a_items_first, .inl (cI, 360, .inl k_items_first)), (a_changes, .inr (2, [.ref a_changes_field, .ref a_changes_value, .ref a_changes_from, .ref a_changes_told, .ref a_changes_count])), (a_changes_field, .inl (cI, 1200, .inl k_changes_field)), (a_changes_value, .inl (cI, 1200, .inl k_changes_value)), (a_changes_from, .inl (cI, 1200, .inl k_changes_from)), (a_changes_count, .inl (cI, 60, .inl k_changes_count))]) [0, 1, 3, 4, 5, 6, 7, 8] rfl
        refine zq_calli (va_runV (As := [.int p1, .int v3, .int k_today]) (rest := [.int v3, .int v2, .ref a_items]) ⟨hx, hb, hml, hown, hts⟩ (zc_Or_valueOn l dC dI cI cZ cL h0 a_orders a_items a_changes a_outputs a_rates a_quotes a_accounts a_calendar a_items_orderOf a_items_agreedRule a_items_first a_changes_field a_changes_value a_changes_from a_changes_told a_changes_count k_items_first k_items_count k_changes_field k_changes_value k_changes_from k_changes_count k_today p1 v3 k_today _ h) (cwV 3 hts (zg_V zw_121 zw_122 zw_123 zw_11 zw_124) rfl rfl rfl (by decide +kernel) ⟨Nat.le_of_ble_eq_true rfl, Nat.le_of_ble_eq_true rfl⟩) ⟨zb_p, va_recv hK hPc (ci := 8) (q0 := 0) rfl rfl, zb_preP hPc hK hN⟩ rfl rfl hl.1 rfl (lv_room (Nat.le_of_ble_eq_true rfl)) d_Or_copyOfToday_38 ⟨Nat.le_of_ble_eq_true rfl, Nat.le_of_ble_eq_true rfl⟩) (fun r2 h => ?_)
        have hPc := hP.sub (ws' := [(a_items, .inr (3, [.ref a_items_orderOf, .ref a_items_agreedRule, .ref a_items_first, .int k_items_count])), (a_items_first, .inl (cI, 360, .inl k_items_first))]) [1, 3] rfl
        have hDc := hD.sub (ws' := [(a_items, .inr (3, [.ref a_items_orderOf, .ref a_items_agreedRule, .ref a_items_first, .int k_items_count])), (a_items_first, .inl (cI, 360, .inl k_items_first))]) [1, 3] (by decide) rfl
        have hFc := va_free (wc := [(a_items, .inr (3, [.ref a_items_orderOf, .ref a_items_agreedRule, .ref a_items_first, .int k_items_count])), (a_items_first, .inl (cI, 360, .inl k_items_first))]) hD hS hA [1, 3] rfl
        refine va_callv (va_runV (As := [.int v2, .int v3, .int r2]) (rest := []) ⟨hx, hb, hml, hown, hts⟩ (zc_Itm_begin l dC dI cI cZ cL a_items a_items_orderOf a_items_agreedRule a_items_first _ k_items_first k_items_count v2 v3 r2 _ h) (cwV 3 hts (zg_V zw_79 zw_80 zw_81 zw_77 zw_82) rfl rfl rfl (by decide +kernel) ⟨Nat.le_of_ble_eq_true rfl, Nat.le_of_ble_eq_true rfl⟩) ⟨zb_w, va_recv hK hPc (ci := 3) (q0 := 0) rfl rfl, zb_preW hPc hK hDc hN⟩ rfl rfl hl.1 rfl (lv_room (Nat.le_of_ble_eq_true rfl)) d_Or_copyOfToday_41 ⟨Nat.le_of_ble_eq_true rfl, Nat.le_of_ble_eq_true rfl⟩) hS (fun q _ h => hFc q h) hFc (fun u t H1 locs ht hvm h hB hz1 hk1 hS => ?_)
        obtain ⟨w3, rfl⟩ : ∃ z, z = u := ⟨_, rfl⟩
        obtain ⟨hP1, hD1⟩ := hB
        rw [ht] at hP1
        obtain ⟨hP, hD⟩ := va_join (wr := [(h0, .inr (8, [.ref a_orders, .ref a_items, .ref a_changes, .ref a_outputs, .ref a_rates, .ref a_quotes, .ref a_accounts, .ref a_calendar, .int k_today])), (a_items_orderOf, .inl (cI, 60, .inl k_items_orderOf)), (a_changes, .inr (2, [.ref a_changes_field, .ref a_changes_value, .ref a_changes_from, .ref a_changes_told, .ref a_changes_count])), (a_changes_field, .inl (cI, 1200, .inl k_changes_field)), (a_changes_value, .inl (cI, 1200, .inl k_changes_value)), (a_changes_from, .inl (cI, 1200, .inl k_changes_from)), (a_changes_count, .inl (cI, 60, .inl k_changes_count))]) (w1 := [(a_items, .inr (3, [.ref a_items_orderOf, .ref a_items_agreedRule, .ref a_items_first, .int k_items_count])), (a_items_first, .inl (cI, 360, .inl w3))]) hP hD [1, 3] [0, 2, 4, 5, 6, 7, 8] rfl rfl (by decide) (by decide) hk1 hFc hP1 hD1
        generalize H1 = H at hP hS ⊢
        have hP : va_P (dC, dI) vwCl [(h0, .inr (8, [.ref a_orders, .ref a_items, .ref a_changes, .ref a_outputs, .ref a_rates, .ref a_quotes, .ref a_accounts, .ref a_calendar, .int k_today])), (a_items_orderOf, .inl (cI, 60, .inl k_items_orderOf)), (a_changes, .inr (2, [.ref a_changes_field, .ref a_changes_value, .ref a_changes_from, .ref a_changes_told, .ref a_changes_count])), (a_changes_field, .inl (cI, 1200, .inl k_changes_field)), (a_changes_value, .inl (cI, 1200, .inl k_changes_value)), (a_changes_from, .inl (cI, 1200, .inl k_changes_from)), (a_changes_count, .inl (cI, 60, .inl k_changes_count)), (a_items, .inr (3, [.ref a_items_orderOf, .ref a_items_agreedRule, .ref a_items_first, .int k_items_count])), (a_items_first, .inl (cI, 360, .inl w3))] H := hP
        have hD : va_D A [(h0, .inr (8, [.ref a_orders, .ref a_items, .ref a_changes, .ref a_outputs, .ref a_rates, .ref a_quotes, .ref a_accounts, .ref a_calendar, .int k_today])), (a_items_orderOf, .inl (cI, 60, .inl k_items_orderOf)), (a_changes, .inr (2, [.ref a_changes_field, .ref a_changes_value, .ref a_changes_from, .ref a_changes_told, .ref a_changes_count])), (a_changes_field, .inl (cI, 1200, .inl k_changes_field)), (a_changes_value, .inl (cI, 1200, .inl k_changes_value)), (a_changes_from, .inl (cI, 1200, .inl k_changes_from)), (a_changes_count, .inl (cI, 60, .inl k_changes_count)), (a_items, .inr (3, [.ref a_items_orderOf, .ref a_items_agreedRule, .ref a_items_first, .int k_items_count])), (a_items_first, .inl (cI, 360, .inl w3))] := hD
        refine lv_iinc (v := v3 + 1) (lv' := [(3, .int (v3 + 1)), (0, .ref h0), (1, .int p1), (2, .int v2)]) hx hb d_Or_copyOfToday_44 hl (k := 3) rfl rfl (by decide) rfl (fun ls hl => ?_)
        refine lv_goto (tgt := 19) hx hb d_Or_copyOfToday_47 (by decide) ?_
        exact ih (v3 + 1) w3 _ _ ls h (hP.sub [0, 7, 1, 8, 2, 3, 4, 5, 6] rfl) (hD.sub [0, 7, 1, 8, 2, 3, 4, 5, 6] (by decide) rfl) hS (lv_sub hl [1, 2, 3, 0] rfl)
  unfold zp_Or_copyOfToday at h
  refine lv_aload_n hx hb d_Or_copyOfToday_0 rfl (lv_at hl 0 rfl) ?_
  refine va_get (D := (dC, dI)) (ci := 8) (v := .ref a_items) (C := R_Or) (T := F_Or) (N := 9) hx hb hts zl_Or hown hK hP 0 rfl rfl 1 (by decide) (hts _ zw_73) (fun _ h9 => h9) rfl d_Or_copyOfToday_1 ?_
  refine lv_aload_n hx hb d_Or_copyOfToday_4 rfl (lv_at hl 0 rfl) ?_
  refine va_get (D := (dC, dI)) (ci := 8) (v := .ref a_items) (C := R_Or) (T := F_Or) (N := 9) hx hb hts zl_Or hown hK hP 0 rfl rfl 1 (by decide) (hts _ zw_73) (fun _ h9 => h9) rfl d_Or_copyOfToday_5 ?_
  refine va_get (D := (dC, dI)) (ci := 3) (v := .ref a_items_orderOf) (C := R_Itm) (T := F_Itm) (N := 4) hx hb hts zl_Itm hown hK hP 1 rfl rfl 0 (by decide) (hts _ zw_156) (fun _ h9 => h9) rfl d_Or_copyOfToday_8 ?_
  refine lv_iload_n hx hb d_Or_copyOfToday_11 rfl (lv_at hl 1 rfl) ?_
  refine va_iald hx hb hK hP 2 0 rfl rfl h.1 d_Or_copyOfToday_12 ?_
  have h := h.2
  have hPc := hP.sub (ws' := [(a_items, .inr (3, [.ref a_items_orderOf, .ref a_items_agreedRule, .ref a_items_first, .int k_items_count])), (a_items_orderOf, .inl (cI, 60, .inl k_items_orderOf))]) [1, 2] rfl
  have hDc := hD.sub (ws' := [(a_items, .inr (3, [.ref a_items_orderOf, .ref a_items_agreedRule, .ref a_items_first, .int k_items_count])), (a_items_orderOf, .inl (cI, 60, .inl k_items_orderOf))]) [1, 2] (by decide) rfl
  have hFc := va_free (wc := [(a_items, .inr (3, [.ref a_items_orderOf, .ref a_items_agreedRule, .ref a_items_first, .int k_items_count])), (a_items_orderOf, .inl (cI, 60, .inl k_items_orderOf))]) hD hS hA [1, 2] rfl
  refine va_calli (va_runV (As := [.int (k_items_orderOf p1.toNatClampNeg)]) (rest := []) ⟨hx, hb, hml, hown, hts⟩ (zc_Itm_add l dC dI cI cZ cL a_items a_items_orderOf a_items_agreedRule a_items_first _ k_items_orderOf k_items_count (k_items_orderOf p1.toNatClampNeg) _ h) (cwV 1 hts (zg_V zw_74 zw_75 zw_76 zw_77 zw_78) rfl rfl rfl (by decide +kernel) ⟨Nat.le_of_ble_eq_true rfl, Nat.le_of_ble_eq_true rfl⟩) ⟨zb_w, va_recv hK hPc (ci := 3) (q0 := 0) rfl rfl, zb_preW hPc hK hDc hN⟩ rfl rfl hl.1 rfl (lv_room (Nat.le_of_ble_eq_true rfl)) d_Or_copyOfToday_13 ⟨Nat.le_of_ble_eq_true rfl, Nat.le_of_ble_eq_true rfl⟩) hS (fun q _ h => hFc q h) hFc (fun r4 u t H1 locs ht hvm h hB hz1 hk1 hS => ?_)
  obtain ⟨w5, w6⟩ := u
  obtain ⟨hP1, hD1⟩ := hB
  rw [ht] at hP1
  obtain ⟨hP, hD⟩ := va_join (wr := [(h0, .inr (8, [.ref a_orders, .ref a_items, .ref a_changes, .ref a_outputs, .ref a_rates, .ref a_quotes, .ref a_accounts, .ref a_calendar, .int k_today])), (a_items_first, .inl (cI, 360, .inl k_items_first)), (a_changes, .inr (2, [.ref a_changes_field, .ref a_changes_value, .ref a_changes_from, .ref a_changes_told, .ref a_changes_count])), (a_changes_field, .inl (cI, 1200, .inl k_changes_field)), (a_changes_value, .inl (cI, 1200, .inl k_changes_value)), (a_changes_from, .inl (cI, 1200, .inl k_changes_from)), (a_changes_count, .inl (cI, 60, .inl k_changes_count))]) (w1 := [(a_items, .inr (3, [.ref a_items_orderOf, .ref a_items_agreedRule, .ref a_items_first, .int w6])), (a_items_orderOf, .inl (cI, 60, .inl w5))]) hP hD [1, 2] [0, 3, 4, 5, 6, 7, 8] rfl rfl (by decide) (by decide) hk1 hFc hP1 hD1
  generalize H1 = H at hP hS ⊢
  have hP : va_P (dC, dI) vwCl [(h0, .inr (8, [.ref a_orders, .ref a_items, .ref a_changes, .ref a_outputs, .ref a_rates, .ref a_quotes, .ref a_accounts, .ref a_calendar, .int k_today])), (a_items_first, .inl (cI, 360, .inl k_items_first)), (a_changes, .inr (2, [.ref a_changes_field, .ref a_changes_value, .ref a_changes_from, .ref a_changes_told, .ref a_changes_count])), (a_changes_field, .inl (cI, 1200, .inl k_changes_field)), (a_changes_value, .inl (cI, 1200, .inl k_changes_value)), (a_changes_from, .inl (cI, 1200, .inl k_changes_from)), (a_changes_count, .inl (cI, 60, .inl k_changes_count)), (a_items, .inr (3, [.ref a_items_orderOf, .ref a_items_agreedRule, .ref a_items_first, .int w6])), (a_items_orderOf, .inl (cI, 60, .inl w5))] H := hP
  have hD : va_D A [(h0, .inr (8, [.ref a_orders, .ref a_items, .ref a_changes, .ref a_outputs, .ref a_rates, .ref a_quotes, .ref a_accounts, .ref a_calendar, .int k_today])), (a_items_first, .inl (cI, 360, .inl k_items_first)), (a_changes, .inr (2, [.ref a_changes_field, .ref a_changes_value, .ref a_changes_from, .ref a_changes_told, .ref a_changes_count])), (a_changes_field, .inl (cI, 1200, .inl k_changes_field)), (a_changes_value, .inl (cI, 1200, .inl k_changes_value)), (a_changes_from, .inl (cI, 1200, .inl k_changes_from)), (a_changes_count, .inl (cI, 60, .inl k_changes_count)), (a_items, .inr (3, [.ref a_items_orderOf, .ref a_items_agreedRule, .ref a_items_first, .int w6])), (a_items_orderOf, .inl (cI, 60, .inl w5))] := hD
  refine lv_istore_n (lv' := [(2, .int r4), (0, .ref h0), (1, .int p1)]) hx hb d_Or_copyOfToday_16 rfl hl (by decide) rfl (fun ls hl => ?_)
  refine lv_iconst (v := 0) hx hb d_Or_copyOfToday_17 (by decide) ?_
  refine lv_istore_n (lv' := [(3, .int 0), (2, .int r4), (0, .ref h0), (1, .int p1)]) hx hb d_Or_copyOfToday_18 rfl hl (by decide) rfl (fun ls hl => ?_)
  obtain ⟨n, h⟩ := h
  exact B19 r4 w5 w6 n 0 k_items_first _ _ ls h (hP.sub [0, 7, 8, 1, 2, 3, 4, 5, 6] rfl) (hD.sub [0, 7, 8, 1, 2, 3, 4, 5, 6] (by decide) rfl) hS (lv_sub hl [2, 3, 1, 0] rfl)
