set_option maxHeartbeats 4000000 in
set_option maxRecDepth 100000 in
theorem zc_Mo_thrown (l : Launch) (dC : Nat → ClassId) (dI : Nat → Nat → Nat) (cI cZ cL : ClassId) (h0 a_credit a_customer a_due a_group a_orderOf a_first a_rule a_reserved a_changes a_changeField a_changeValue a_changeFrom a_changeTold a_rowItem a_rowDay a_rowKilos a_quoteItem a_quoteUntil a_quotePrice a_accepted a_taken : Nat) (k_thrown : Int32) (k_today : Int32) (k_orders : Int32) (k_items : Int32) (k_rows : Int32) (k_base : Int32) (k_perThousand : Int32) (k_perWidth : Int32) (k_quotes : Int32) (k_capacity : Int32) (P : Int32 → Prop) (h : zp_Mo_thrown k_thrown P) : Met l y_Mo_thrown w_Mo_thrown ({ frames := 0, cells := 0, slots := 0, locals := 0 }) (va_Pc [.ref h0] (fun U => va_P (dC, dI) vwCl [(h0, .inr (9, [.int k_thrown, .int k_today, .ref a_credit, .int k_orders, .ref a_customer, .ref a_due, .ref a_group, .int k_items, .ref a_orderOf, .ref a_first, .ref a_rule, .ref a_reserved, .ref a_changes, .ref a_changeField, .ref a_changeValue, .ref a_changeFrom, .ref a_changeTold, .int k_rows, .ref a_rowItem, .ref a_rowDay, .ref a_rowKilos, .int k_base, .int k_perThousand, .int k_perWidth, .int k_quotes, .ref a_quoteItem, .ref a_quoteUntil, .ref a_quotePrice, .ref a_accepted, .int k_capacity, .ref a_taken]))] U.heap ∧ va_K (dC, dI) vwCl [(cI, .int), (cZ, .boolean), (cL, .long)] U ∧ zn_ok U)) (zq_Ri P) 0 0 (fun _ => False) := by
  refine Met.ofW (cc := b_Mo_thrown) (maxL := 1) (ret := (some .int)) (by decide) rfl ?_
  intro p e s m args below meth c s₁ B hml hv
  obtain ⟨rfl, hP, hK, hN⟩ := hv
  have hx := B.exec
  have hb := B.bytes
  have hr := B.returns
  have hts0 := atoms_spec (ws := w_Mo_thrown) B.pre
  have hts : ∀ w ∈ zw_T, w.before ([.ref h0] : List Value).toArray s = true := fun w h => hts0 w (List.mem_cons_of_mem _ h)
  have hown : s.vm.findClass R_Mo = some m.cls := findClass_of_methodNamed B.named
  have hlocks := B.notSynchronized
  have hl := lv_entry ([.ref h0]) (n := 1) (Nat.le_of_ble_eq_true rfl)
  rw [lg_entry_eq]
  generalize (lg_sl ([.ref h0]) ++ List.replicate (1 - (lg_sl ([.ref h0])).length) Slot.unset).toArray = ls at hl ⊢
  have hl : lv_has ls 1 [(0, .ref h0)] := hl
  unfold zp_Mo_thrown at h
  refine lv_aload_n hx hb d_Mo_thrown_0 rfl (lv_at hl 0 rfl) ?_
  refine va_get (D := (dC, dI)) (ci := 9) (v := .int k_thrown) (C := R_Mo) (T := F_Mo) (N := 31) hx hb hts zl_Mo hown hK hP 0 rfl rfl 0 (by decide) (hts _ zw_245) (fun _ h9 => h9) rfl d_Mo_thrown_1 ?_
  exact W.iret (v := k_thrown) hx hb hr (fun t ht hW => ⟨_, rfl, h, ht⟩) (fun q hq => nomatch hq) d_Mo_thrown_4
set_option maxHeartbeats 4000000 in
set_option maxRecDepth 100000 in
theorem zc_Mo_in (l : Launch) (dC : Nat → ClassId) (dI : Nat → Nat → Nat) (cI cZ cL : ClassId) (p1 : Int32) (p2 : Int32) (p3 : Int32) (P : Int32 → Prop) (h : zp_Mo_in p1 p2 p3 P) : Met l y_Mo_in w_Mo_in ({ frames := 0, cells := 0, slots := 0, locals := 0 }) (va_Pc [.int p1, .int p2, .int p3] (fun U => va_P (dC, dI) vwCl [] U.heap ∧ va_K (dC, dI) vwCl [(cI, .int), (cZ, .boolean), (cL, .long)] U ∧ zn_ok U)) (zq_Ri P) 0 0 (fun _ => False) := by
  refine Met.ofW (cc := b_Mo_in) (maxL := 3) (ret := (some .boolean)) (by decide) rfl ?_
  intro p e s m args below meth c s₁ B hml hv
  obtain ⟨rfl, hP, hK, hN⟩ := hv
  have hx := B.exec
  have hb := B.bytes
  have hr := B.returns
  have hts0 := atoms_spec (ws := w_Mo_in) B.pre
  have hts : ∀ w ∈ zw_T, w.before ([.int p1, .int p2, .int p3] : List Value).toArray s = true := fun w h => hts0 w (List.mem_cons_of_mem _ h)
  have hown : s.vm.findClass R_Mo = some m.cls := findClass_of_methodNamed B.named
  have hlocks := B.notSynchronized
  have hl := lv_entry ([.int p1, .int p2, .int p3]) (n := 3) (Nat.le_of_ble_eq_true rfl)
  rw [lg_entry_eq]
  generalize (lg_sl ([.int p1, .int p2, .int p3]) ++ List.replicate (3 - (lg_sl ([.int p1, .int p2, .int p3])).length) Slot.unset).toArray = ls at hl ⊢
  have hl : lv_has ls 3 [(0, .int p1), (1, .int p2), (2, .int p3)] := hl
  unfold zp_Mo_in at h
  refine lv_iload_n hx hb d_Mo_in_0 rfl (lv_at hl 0 rfl) ?_
  refine lv_iload_n hx hb d_Mo_in_1 rfl (lv_at hl 1 rfl) ?_
  refine lv_icmp_lt (tgt := 14) hx hb d_Mo_in_2 (by decide) (fun c1 => ?_) (fun c1 => ?_)
  · have h := h.1 c1
    refine lv_iconst (v := 0) hx hb d_Mo_in_14 (by decide) ?_
    exact W.zret (v := 0) (ty := .boolean) hx hb hr h.1 (fun t ht hW => ⟨_, rfl, h.2, ht⟩) (fun q hq => nomatch hq) d_Mo_in_15
  · have h := h.2 c1
    refine lv_iload_n hx hb d_Mo_in_5 rfl (lv_at hl 0 rfl) ?_
    refine lv_iload_n hx hb d_Mo_in_6 rfl (lv_at hl 2 rfl) ?_
    refine lv_icmp_gt (tgt := 14) hx hb d_Mo_in_7 (by decide) (fun c2 => ?_) (fun c2 => ?_)
    · have h := h.1 c2
      refine lv_iconst (v := 0) hx hb d_Mo_in_14 (by decide) ?_
      exact W.zret (v := 0) (ty := .boolean) hx hb hr h.1 (fun t ht hW => ⟨_, rfl, h.2, ht⟩) (fun q hq => nomatch hq) d_Mo_in_15
    · have h := h.2 c2
      refine lv_iconst (v := 1) hx hb d_Mo_in_10 (by decide) ?_
      refine lv_goto (tgt := 15) hx hb d_Mo_in_11 (by decide) ?_
      exact W.zret (v := 1) (ty := .boolean) hx hb hr h.1 (fun t ht hW => ⟨_, rfl, h.2, ht⟩) (fun q hq => nomatch hq) d_Mo_in_15
set_option maxHeartbeats 4000000 in
set_option maxRecDepth 100000 in
theorem zc_Mo_isOrder (l : Launch) (dC : Nat → ClassId) (dI : Nat → Nat → Nat) (cI cZ cL : ClassId) (h0 a_credit a_customer a_due a_group a_orderOf a_first a_rule a_reserved a_changes a_changeField a_changeValue a_changeFrom a_changeTold a_rowItem a_rowDay a_rowKilos a_quoteItem a_quoteUntil a_quotePrice a_accepted a_taken : Nat) (k_thrown : Int32) (k_today : Int32) (k_orders : Int32) (k_items : Int32) (k_rows : Int32) (k_base : Int32) (k_perThousand : Int32) (k_perWidth : Int32) (k_quotes : Int32) (k_capacity : Int32) (p1 : Int32) (P : Int32 → Prop) (h : zp_Mo_isOrder p1 k_orders P) : Met l y_Mo_isOrder w_Mo_isOrder ({ frames := 1, cells := 0, slots := 0, locals := 22 }) (va_Pc [.ref h0, .int p1] (fun U => va_P (dC, dI) vwCl [(h0, .inr (9, [.int k_thrown, .int k_today, .ref a_credit, .int k_orders, .ref a_customer, .ref a_due, .ref a_group, .int k_items, .ref a_orderOf, .ref a_first, .ref a_rule, .ref a_reserved, .ref a_changes, .ref a_changeField, .ref a_changeValue, .ref a_changeFrom, .ref a_changeTold, .int k_rows, .ref a_rowItem, .ref a_rowDay, .ref a_rowKilos, .int k_base, .int k_perThousand, .int k_perWidth, .int k_quotes, .ref a_quoteItem, .ref a_quoteUntil, .ref a_quotePrice, .ref a_accepted, .int k_capacity, .ref a_taken]))] U.heap ∧ va_K (dC, dI) vwCl [(cI, .int), (cZ, .boolean), (cL, .long)] U ∧ zn_ok U)) (zq_Ri P) 0 0 (fun _ => False) := by
  refine Met.ofW (cc := b_Mo_isOrder) (maxL := 2) (ret := (some .boolean)) (by decide) rfl ?_
  intro p e s m args below meth c s₁ B hml hv
  obtain ⟨rfl, hP, hK, hN⟩ := hv
  have hx := B.exec
  have hb := B.bytes
  have hr := B.returns
  have hts0 := atoms_spec (ws := w_Mo_isOrder) B.pre
  have hts : ∀ w ∈ zw_T, w.before ([.ref h0, .int p1] : List Value).toArray s = true := fun w h => hts0 w (List.mem_cons_of_mem _ h)
  have hown : s.vm.findClass R_Mo = some m.cls := findClass_of_methodNamed B.named
  have hlocks := B.notSynchronized
  have hl := lv_entry ([.ref h0, .int p1]) (n := 2) (Nat.le_of_ble_eq_true rfl)
  rw [lg_entry_eq]
  generalize (lg_sl ([.ref h0, .int p1]) ++ List.replicate (2 - (lg_sl ([.ref h0, .int p1])).length) Slot.unset).toArray = ls at hl ⊢
  have hl : lv_has ls 2 [(0, .ref h0), (1, .int p1)] := hl
  unfold zp_Mo_isOrder at h
  refine lv_iload_n hx hb d_Mo_isOrder_0 rfl (lv_at hl 1 rfl) ?_
  refine lv_iconst (v := 0) hx hb d_Mo_isOrder_1 (by decide) ?_
  refine lv_aload_n hx hb d_Mo_isOrder_2 rfl (lv_at hl 0 rfl) ?_
  refine va_get (D := (dC, dI)) (ci := 9) (v := .int k_orders) (C := R_Mo) (T := F_Mo) (N := 31) hx hb hts zl_Mo hown hK hP 0 rfl rfl 3 (by decide) (hts _ zw_246) (fun _ h9 => h9) rfl d_Mo_isOrder_3 ?_
  refine lv_iconst (v := 1) hx hb d_Mo_isOrder_6 (by decide) ?_
  refine lv_isub hx hb d_Mo_isOrder_7 ?_
  have hPc := hP.sub (ws' := []) [] rfl
  refine zq_calli (va_runS (As := [.int p1, .int 0, .int (k_orders - 1)]) (rest := []) ⟨hx, hb, hml, hown, hts⟩ (zc_Mo_in l dC dI cI cZ cL p1 0 (k_orders - 1) _ h) (cwS 3 hts (zg_S zw_247 zw_248 zw_249 zw_250) rfl rfl rfl (by decide +kernel) ⟨Nat.le_of_ble_eq_true rfl, Nat.le_of_ble_eq_true rfl⟩) ⟨zb_p, zb_preP hPc hK hN⟩ rfl rfl hl.1 rfl (lv_room (Nat.le_of_ble_eq_true rfl)) d_Mo_isOrder_8 ⟨Nat.le_of_ble_eq_true rfl, Nat.le_of_ble_eq_true rfl⟩) (fun r1 h => ?_)
  exact W.zret (v := r1) (ty := .boolean) hx hb hr h.1 (fun t ht hW => ⟨_, rfl, h.2, ht⟩) (fun q hq => nomatch hq) d_Mo_isOrder_11
set_option maxHeartbeats 4000000 in
set_option maxRecDepth 100000 in
theorem zc_Mo_isItem (l : Launch) (dC : Nat → ClassId) (dI : Nat → Nat → Nat) (cI cZ cL : ClassId) (h0 a_credit a_customer a_due a_group a_orderOf a_first a_rule a_reserved a_changes a_changeField a_changeValue a_changeFrom a_changeTold a_rowItem a_rowDay a_rowKilos a_quoteItem a_quoteUntil a_quotePrice a_accepted a_taken : Nat) (k_thrown : Int32) (k_today : Int32) (k_orders : Int32) (k_items : Int32) (k_rows : Int32) (k_base : Int32) (k_perThousand : Int32) (k_perWidth : Int32) (k_quotes : Int32) (k_capacity : Int32) (p1 : Int32) (P : Int32 → Prop) (h : zp_Mo_isItem p1 k_items P) : Met l y_Mo_isItem w_Mo_isItem ({ frames := 1, cells := 0, slots := 0, locals := 22 }) (va_Pc [.ref h0, .int p1] (fun U => va_P (dC, dI) vwCl [(h0, .inr (9, [.int k_thrown, .int k_today, .ref a_credit, .int k_orders, .ref a_customer, .ref a_due, .ref a_group, .int k_items, .ref a_orderOf, .ref a_first, .ref a_rule, .ref a_reserved, .ref a_changes, .ref a_changeField, .ref a_changeValue, .ref a_changeFrom, .ref a_changeTold, .int k_rows, .ref a_rowItem, .ref a_rowDay, .ref a_rowKilos, .int k_base, .int k_perThousand, .int k_perWidth, .int k_quotes, .ref a_quoteItem, .ref a_quoteUntil, .ref a_quotePrice, .ref a_accepted, .int k_capacity, .ref a_taken]))] U.heap ∧ va_K (dC, dI) vwCl [(cI, .int), (cZ, .boolean), (cL, .long)] U ∧ zn_ok U)) (zq_Ri P) 0 0 (fun _ => False) := by
  refine Met.ofW (cc := b_Mo_isItem) (maxL := 2) (ret := (some .boolean)) (by decide) rfl ?_
  intro p e s m args below meth c s₁ B hml hv
  obtain ⟨rfl, hP, hK, hN⟩ := hv
  have hx := B.exec
  have hb := B.bytes
  have hr := B.returns
  have hts0 := atoms_spec (ws := w_Mo_isItem) B.pre
  have hts : ∀ w ∈ zw_T, w.before ([.ref h0, .int p1] : List Value).toArray s = true := fun w h => hts0 w (List.mem_cons_of_mem _ h)
  have hown : s.vm.findClass R_Mo = some m.cls := findClass_of_methodNamed B.named
  have hlocks := B.notSynchronized
  have hl := lv_entry ([.ref h0, .int p1]) (n := 2) (Nat.le_of_ble_eq_true rfl)
  rw [lg_entry_eq]
  generalize (lg_sl ([.ref h0, .int p1]) ++ List.replicate (2 - (lg_sl ([.ref h0, .int p1])).length) Slot.unset).toArray = ls at hl ⊢
  have hl : lv_has ls 2 [(0, .ref h0), (1, .int p1)] := hl
  unfold zp_Mo_isItem at h
  refine lv_iload_n hx hb d_Mo_isItem_0 rfl (lv_at hl 1 rfl) ?_
  refine lv_iconst (v := 0) hx hb d_Mo_isItem_1 (by decide) ?_
  refine lv_aload_n hx hb d_Mo_isItem_2 rfl (lv_at hl 0 rfl) ?_
  refine va_get (D := (dC, dI)) (ci := 9) (v := .int k_items) (C := R_Mo) (T := F_Mo) (N := 31) hx hb hts zl_Mo hown hK hP 0 rfl rfl 7 (by decide) (hts _ zw_251) (fun _ h9 => h9) rfl d_Mo_isItem_3 ?_
  refine lv_iconst (v := 1) hx hb d_Mo_isItem_6 (by decide) ?_
  refine lv_isub hx hb d_Mo_isItem_7 ?_
  have hPc := hP.sub (ws' := []) [] rfl
  refine zq_calli (va_runS (As := [.int p1, .int 0, .int (k_items - 1)]) (rest := []) ⟨hx, hb, hml, hown, hts⟩ (zc_Mo_in l dC dI cI cZ cL p1 0 (k_items - 1) _ h) (cwS 3 hts (zg_S zw_247 zw_248 zw_249 zw_250) rfl rfl rfl (by decide +kernel) ⟨Nat.le_of_ble_eq_true rfl, Nat.le_of_ble_eq_true rfl⟩) ⟨zb_p, zb_preP hPc hK hN⟩ rfl rfl hl.1 rfl (lv_room (Nat.le_of_ble_eq_true rfl)) d_Mo_isItem_8 ⟨Nat.le_of_ble_eq_true rfl, Nat.le_of_ble_eq_true rfl⟩) (fun r1 h => ?_)
  exact W.zret (v := r1) (ty := .boolean) hx hb hr h.1 (fun t ht hW => ⟨_, rfl, h.2, ht⟩) (fun q hq => nomatch hq) d_Mo_isItem_11
set_option maxHeartbeats 4000000 in
set_option maxRecDepth 100000 in
theorem zc_Mo_isDay (l : Launch) (dC : Nat → ClassId) (dI : Nat → Nat → Nat) (cI cZ cL : ClassId) (p1 : Int32) (P : Int32 → Prop) (h : zp_Mo_isDay p1 P) : Met l y_Mo_isDay w_Mo_isDay ({ frames := 1, cells := 0, slots := 0, locals := 22 }) (va_Pc [.int p1] (fun U => va_P (dC, dI) vwCl [] U.heap ∧ va_K (dC, dI) vwCl [(cI, .int), (cZ, .boolean), (cL, .long)] U ∧ zn_ok U)) (zq_Ri P) 0 0 (fun _ => False) := by
  refine Met.ofW (cc := b_Mo_isDay) (maxL := 1) (ret := (some .boolean)) (by decide) rfl ?_
  intro p e s m args below meth c s₁ B hml hv
  obtain ⟨rfl, hP, hK, hN⟩ := hv
  have hx := B.exec
  have hb := B.bytes
  have hr := B.returns
  have hts0 := atoms_spec (ws := w_Mo_isDay) B.pre
  have hts : ∀ w ∈ zw_T, w.before ([.int p1] : List Value).toArray s = true := fun w h => hts0 w (List.mem_cons_of_mem _ h)
  have hown : s.vm.findClass R_Mo = some m.cls := findClass_of_methodNamed B.named
  have hlocks := B.notSynchronized
  have hl := lv_entry ([.int p1]) (n := 1) (Nat.le_of_ble_eq_true rfl)
  rw [lg_entry_eq]
  generalize (lg_sl ([.int p1]) ++ List.replicate (1 - (lg_sl ([.int p1])).length) Slot.unset).toArray = ls at hl ⊢
  have hl : lv_has ls 1 [(0, .int p1)] := hl
  unfold zp_Mo_isDay at h
  refine lv_iload_n hx hb d_Mo_isDay_0 rfl (lv_at hl 0 rfl) ?_
  refine lv_iconst (v := 0) hx hb d_Mo_isDay_1 (by decide) ?_
  refine lv_sipush (v := 9999) hx hb d_Mo_isDay_2 (by decide) ?_
  have hPc := hP.sub (ws' := []) [] rfl
  refine zq_calli (va_runS (As := [.int p1, .int 0, .int 9999]) (rest := []) ⟨hx, hb, hml, hown, hts⟩ (zc_Mo_in l dC dI cI cZ cL p1 0 9999 _ h) (cwS 3 hts (zg_S zw_247 zw_248 zw_249 zw_250) rfl rfl rfl (by decide +kernel) ⟨Nat.le_of_ble_eq_true rfl, Nat.le_of_ble_eq_true rfl⟩) ⟨zb_p, zb_preP hPc hK hN⟩ rfl rfl hl.1 rfl (lv_room (Nat.le_of_ble_eq_true rfl)) d_Mo_isDay_5 ⟨Nat.le_of_ble_eq_true rfl, Nat.le_of_ble_eq_true rfl⟩) (fun r1 h => ?_)
  exact W.zret (v := r1) (ty := .boolean) hx hb hr h.1 (fun t ht hW => ⟨_, rfl, h.2, ht⟩) (fun q hq => nomatch hq) d_Mo_isDay_8
set_option maxHeartbeats 4000000 in
set_option maxRecDepth 100000 in
theorem zc_Mo_isSize (l : Launch) (dC : Nat → ClassId) (dI : Nat → Nat → Nat) (cI cZ cL : ClassId) (p1 : Int32) (P : Int32 → Prop) (h : zp_Mo_isSize p1 P) : Met l y_Mo_isSize w_Mo_isSize ({ frames := 1, cells := 0, slots := 0, locals := 22 }) (va_Pc [.int p1] (fun U => va_P (dC, dI) vwCl [] U.heap ∧ va_K (dC, dI) vwCl [(cI, .int), (cZ, .boolean), (cL, .long)] U ∧ zn_ok U)) (zq_Ri P) 0 0 (fun _ => False) := by
  refine Met.ofW (cc := b_Mo_isSize) (maxL := 1) (ret := (some .boolean)) (by decide) rfl ?_
  intro p e s m args below meth c s₁ B hml hv
  obtain ⟨rfl, hP, hK, hN⟩ := hv
  have hx := B.exec
  have hb := B.bytes
  have hr := B.returns
  have hts0 := atoms_spec (ws := w_Mo_isSize) B.pre
  have hts : ∀ w ∈ zw_T, w.before ([.int p1] : List Value).toArray s = true := fun w h => hts0 w (List.mem_cons_of_mem _ h)
  have hown : s.vm.findClass R_Mo = some m.cls := findClass_of_methodNamed B.named
  have hlocks := B.notSynchronized
  have hl := lv_entry ([.int p1]) (n := 1) (Nat.le_of_ble_eq_true rfl)
  rw [lg_entry_eq]
  generalize (lg_sl ([.int p1]) ++ List.replicate (1 - (lg_sl ([.int p1])).length) Slot.unset).toArray = ls at hl ⊢
  have hl : lv_has ls 1 [(0, .int p1)] := hl
  unfold zp_Mo_isSize at h
  refine lv_iload_n hx hb d_Mo_isSize_0 rfl (lv_at hl 0 rfl) ?_
  refine lv_iconst (v := 1) hx hb d_Mo_isSize_1 (by decide) ?_
  refine lv_ldc (v := 100000) hx hb hown (hts _ zw_252) d_Mo_isSize_2 ?_
  have hPc := hP.sub (ws' := []) [] rfl
  refine zq_calli (va_runS (As := [.int p1, .int 1, .int 100000]) (rest := []) ⟨hx, hb, hml, hown, hts⟩ (zc_Mo_in l dC dI cI cZ cL p1 1 100000 _ h) (cwS 3 hts (zg_S zw_247 zw_248 zw_249 zw_250) rfl rfl rfl (by decide +kernel) ⟨Nat.le_of_ble_eq_true rfl, Nat.le_of_ble_eq_true rfl⟩) ⟨zb_p, zb_preP hPc hK hN⟩ rfl rfl hl.1 rfl (lv_room (Nat.le_of_ble_eq_true rfl)) d_Mo_isSize_4 ⟨Nat.le_of_ble_eq_true rfl, Nat.le_of_ble_eq_true rfl⟩) (fun r1 h => ?_)
  exact W.zret (v := r1) (ty := .boolean) hx hb hr h.1 (fun t ht hW => ⟨_, rfl, h.2, ht⟩) (fun q hq => nomatch hq) d_Mo_isSize_7
set_option maxHeartbeats 4000000 in
set_option maxRecDepth 100000 in
theorem zc_Mo_isWeight (l : Launch) (dC : Nat → ClassId) (dI : Nat → Nat → Nat) (cI cZ cL : ClassId) (p1 : Int32) (P : Int32 → Prop) (h : zp_Mo_isWeight p1 P) : Met l y_Mo_isWeight w_Mo_isWeight ({ frames := 1, cells := 0, slots := 0, locals := 22 }) (va_Pc [.int p1] (fun U => va_P (dC, dI) vwCl [] U.heap ∧ va_K (dC, dI) vwCl [(cI, .int), (cZ, .boolean), (cL, .long)] U ∧ zn_ok U)) (zq_Ri P) 0 0 (fun _ => False) := by
  refine Met.ofW (cc := b_Mo_isWeight) (maxL := 1) (ret := (some .boolean)) (by decide) rfl ?_
  intro p e s m args below meth c s₁ B hml hv
  obtain ⟨rfl, hP, hK, hN⟩ := hv
  have hx := B.exec
  have hb := B.bytes
  have hr := B.returns
  have hts0 := atoms_spec (ws := w_Mo_isWeight) B.pre
  have hts : ∀ w ∈ zw_T, w.before ([.int p1] : List Value).toArray s = true := fun w h => hts0 w (List.mem_cons_of_mem _ h)
  have hown : s.vm.findClass R_Mo = some m.cls := findClass_of_methodNamed B.named
  have hlocks := B.notSynchronized
  have hl := lv_entry ([.int p1]) (n := 1) (Nat.le_of_ble_eq_true rfl)
  rw [lg_entry_eq]
  generalize (lg_sl ([.int p1]) ++ List.replicate (1 - (lg_sl ([.int p1])).length) Slot.unset).toArray = ls at hl ⊢
  have hl : lv_has ls 1 [(0, .int p1)] := hl
  unfold zp_Mo_isWeight at h
  refine lv_iload_n hx hb d_Mo_isWeight_0 rfl (lv_at hl 0 rfl) ?_
  refine lv_iconst (v := 0) hx hb d_Mo_isWeight_1 (by decide) ?_
  refine lv_ldc (v := 1000000) hx hb hown (hts _ zw_253) d_Mo_isWeight_2 ?_
  have hPc := hP.sub (ws' := []) [] rfl
  refine zq_calli (va_runS (As := [.int p1, .int 0, .int 1000000]) (rest := []) ⟨hx, hb, hml, hown, hts⟩ (zc_Mo_in l dC dI cI cZ cL p1 0 1000000 _ h) (cwS 3 hts (zg_S zw_247 zw_248 zw_249 zw_250) rfl rfl rfl (by decide +kernel) ⟨Nat.le_of_ble_eq_true rfl, Nat.le_of_ble_eq_true rfl⟩) ⟨zb_p, zb_preP hPc hK hN⟩ rfl rfl hl.1 rfl (lv_room (Nat.le_of_ble_eq_true rfl)) d_Mo_isWeight_4 ⟨Nat.le_of_ble_eq_true rfl, Nat.le_of_ble_eq_true rfl⟩) (fun r1 h => ?_)
  exact W.zret (v := r1) (ty := .boolean) hx hb hr h.1 (fun t ht hW => ⟨_, rfl, h.2, ht⟩) (fun q hq => nomatch hq) d_Mo_isWeight_7
set_option maxHeartbeats 4000000 in
set_option maxRecDepth 100000 in
theorem zc_Mo_on (l : Launch) (dC : Nat → ClassId) (dI : Nat → Nat → Nat) (cI cZ cL : ClassId) (h0 a_credit a_customer a_due a_group a_orderOf a_first a_rule a_reserved a_changes a_changeField a_changeValue a_changeFrom a_changeTold a_rowItem a_rowDay a_rowKilos a_quoteItem a_quoteUntil a_quotePrice a_accepted a_taken : Nat) (k_thrown : Int32) (k_today : Int32) (k_orders : Int32) (k_items : Int32) (k_first : Nat → Int32) (k_changes : Nat → Int32) (k_changeField : Nat → Int32) (k_changeValue : Nat → Int32) (k_changeFrom : Nat → Int32) (k_rows : Int32) (k_base : Int32) (k_perThousand : Int32) (k_perWidth : Int32) (k_quotes : Int32) (k_capacity : Int32) (p1 : Int32) (p2 : Int32) (p3 : Int32) (P : Int32 → Prop) (h : zp_Mo_on p1 p2 p3 k_first k_changes k_changeField k_changeValue k_changeFrom P) : Met l y_Mo_on w_Mo_on ({ frames := 0, cells := 0, slots := 0, locals := 0 }) (va_Pc [.ref h0, .int p1, .int p2, .int p3] (fun U => va_P (dC, dI) vwCl [(h0, .inr (9, [.int k_thrown, .int k_today, .ref a_credit, .int k_orders, .ref a_customer, .ref a_due, .ref a_group, .int k_items, .ref a_orderOf, .ref a_first, .ref a_rule, .ref a_reserved, .ref a_changes, .ref a_changeField, .ref a_changeValue, .ref a_changeFrom, .ref a_changeTold, .int k_rows, .ref a_rowItem, .ref a_rowDay, .ref a_rowKilos, .int k_base, .int k_perThousand, .int k_perWidth, .int k_quotes, .ref a_quoteItem, .ref a_quoteUntil, .ref a_quotePrice, .ref a_accepted, .int k_capacity, .ref a_taken])), (a_first, .inl (cI, 360, .inl k_first)), (a_changes, .inl (cI, 60, .inl k_changes)), (a_changeField, .inl (cI, 1200, .inl k_changeField)), (a_changeValue, .inl (cI, 1200, .inl k_changeValue)), (a_changeFrom, .inl (cI, 1200, .inl k_changeFrom))] U.heap ∧ va_K (dC, dI) vwCl [(cI, .int), (cZ, .boolean), (cL, .long)] U ∧ zn_ok U)) (zq_Ri P) 0 0 (fun _ => False) := by
  refine Met.ofW (cc := b_Mo_on) (maxL := 6) (ret := (some .int)) (by decide) rfl ?_
  intro p e s m args below meth c s₁ B hml hv
  obtain ⟨rfl, hP, hK, hN⟩ := hv
  have hx := B.exec
  have hb := B.bytes
  have hr := B.returns
  have hts0 := atoms_spec (ws := w_Mo_on) B.pre
  have hts : ∀ w ∈ zw_T, w.before ([.ref h0, .int p1, .int p2, .int p3] : List Value).toArray s = true := fun w h => hts0 w (List.mem_cons_of_mem _ h)
  have hown : s.vm.findClass R_Mo = some m.cls := findClass_of_methodNamed B.named
  have hlocks := B.notSynchronized
  have hl := lv_entry ([.ref h0, .int p1, .int p2, .int p3]) (n := 6) (Nat.le_of_ble_eq_true rfl)
  rw [lg_entry_eq]
  generalize (lg_sl ([.ref h0, .int p1, .int p2, .int p3]) ++ List.replicate (6 - (lg_sl ([.ref h0, .int p1, .int p2, .int p3])).length) Slot.unset).toArray = ls at hl ⊢
  have hl : lv_has ls 6 [(0, .ref h0), (1, .int p1), (2, .int p2), (3, .int p3)] := hl
  have B76 : ∀ (v4 : Int32) (v5 : Int32) (K9 : Int32 → Int32 → Prop) (hK9 : ∀ (v4 : Int32) (v5 : Int32), ∀ (ls : Array Slot), K9 v4 v5 → lv_has ls 6 [(0, .ref h0), (1, .int p1), (2, .int p2), (3, .int p3), (4, .int v4), (5, .int v5)] → W p l e (headSpec w_Mo_on ({ frames := 0, cells := 0, slots := 0, locals := 0 })).room s m ([.ref h0, .int p1, .int p2, .int p3] : List Value).toArray below meth c s.heap [] 0 0 (MQ below (zq_Ri P) ([.ref h0, .int p1, .int p2, .int p3] : List Value).toArray s 0 0 (fun _ => False)) (F0 m 9 ls [])), ∀ (ls : Array Slot), zp_Mo_on_76 K9 v4 v5 → lv_has ls 6 [(0, .ref h0), (1, .int p1), (2, .int p2), (3, .int p3), (4, .int v4), (5, .int v5)] → W p l e (headSpec w_Mo_on ({ frames := 0, cells := 0, slots := 0, locals := 0 })).room s m ([.ref h0, .int p1, .int p2, .int p3] : List Value).toArray below meth c s.heap [] 0 0 (MQ below (zq_Ri P) ([.ref h0, .int p1, .int p2, .int p3] : List Value).toArray s 0 0 (fun _ => False)) (F0 m 76 ls []) := by
    intro v4 v5 K9 hK9 ls h hl
    unfold zp_Mo_on_76 at h
    refine lv_iinc (v := v5 + 1) (lv' := [(5, .int (v5 + 1)), (0, .ref h0), (1, .int p1), (2, .int p2), (3, .int p3), (4, .int v4)]) hx hb d_Mo_on_76 hl (k := 5) rfl rfl (by decide) rfl (fun ls hl => ?_)
    refine lv_goto (tgt := 9) hx hb d_Mo_on_79 (by decide) ?_
    exact hK9 v4 (v5 + 1) ls h (lv_sub hl [1, 2, 3, 4, 5, 0] rfl)
  have B72 : ∀ (v5 : Int32) (K9 : Int32 → Int32 → Prop) (hK9 : ∀ (v4 : Int32) (v5 : Int32), ∀ (ls : Array Slot), K9 v4 v5 → lv_has ls 6 [(0, .ref h0), (1, .int p1), (2, .int p2), (3, .int p3), (4, .int v4), (5, .int v5)] → W p l e (headSpec w_Mo_on ({ frames := 0, cells := 0, slots := 0, locals := 0 })).room s m ([.ref h0, .int p1, .int p2, .int p3] : List Value).toArray below meth c s.heap [] 0 0 (MQ below (zq_Ri P) ([.ref h0, .int p1, .int p2, .int p3] : List Value).toArray s 0 0 (fun _ => False)) (F0 m 9 ls [])), ∀ (ls : Array Slot), zp_Mo_on_72 K9 v5 → lv_has ls 6 [(0, .ref h0), (1, .int p1), (2, .int p2), (3, .int p3), (5, .int v5)] → W p l e (headSpec w_Mo_on ({ frames := 0, cells := 0, slots := 0, locals := 0 })).room s m ([.ref h0, .int p1, .int p2, .int p3] : List Value).toArray below meth c s.heap [] 0 0 (MQ below (zq_Ri P) ([.ref h0, .int p1, .int p2, .int p3] : List Value).toArray s 0 0 (fun _ => False)) (F0 m 72 ls []) := by
    intro v5 K9 hK9 ls h hl
    unfold zp_Mo_on_72 at h
    refine lv_iload hx hb d_Mo_on_72 (lv_at hl 4 rfl) ?_
    refine lv_istore (lv' := [(4, .int v5), (0, .ref h0), (1, .int p1), (2, .int p2), (3, .int p3), (5, .int v5)]) hx hb d_Mo_on_74 hl (by decide) rfl (fun ls hl => ?_)
    exact B76 v5 v5 _ hK9 ls h (lv_sub hl [1, 2, 3, 4, 0, 5] rfl)
  have B9 : ∀ (n : Nat) (v4 : Int32) (v5 : Int32), ∀ (ls : Array Slot), zp_Mo_on_9 p1 p2 p3 k_first k_changes k_changeField k_changeValue k_changeFrom P n v4 v5 → lv_has ls 6 [(0, .ref h0), (1, .int p1), (2, .int p2), (3, .int p3), (4, .int v4), (5, .int v5)] → W p l e (headSpec w_Mo_on ({ frames := 0, cells := 0, slots := 0, locals := 0 })).room s m ([.ref h0, .int p1, .int p2, .int p3] : List Value).toArray below meth c s.heap [] 0 0 (MQ below (zq_Ri P) ([.ref h0, .int p1, .int p2, .int p3] : List Value).toArray s 0 0 (fun _ => False)) (F0 m 9 ls []) := by
    intro n
    induction n with
    | zero =>
      intro v4 v5 ls h hl
      exact h.elim
    | succ n ih =>
      intro v4 v5 ls h hl
      unfold zp_Mo_on_9 at h
      refine lv_iload hx hb d_Mo_on_9 (lv_at hl 5 rfl) ?_
      refine lv_bipush (v := 20) hx hb d_Mo_on_11 (by decide) ?_
      refine lv_iload_n hx hb d_Mo_on_13 rfl (lv_at hl 1 rfl) ?_
      refine lv_imul hx hb d_Mo_on_14 ?_
      refine lv_aload_n hx hb d_Mo_on_15 rfl (lv_at hl 0 rfl) ?_
      refine va_get (D := (dC, dI)) (ci := 9) (v := .ref a_changes) (C := R_Mo) (T := F_Mo) (N := 31) hx hb hts zl_Mo hown hK hP 0 rfl rfl 12 (by decide) (hts _ zw_275) (fun _ h9 => h9) rfl d_Mo_on_16 ?_
      refine lv_iload_n hx hb d_Mo_on_19 rfl (lv_at hl 1 rfl) ?_
      refine va_iald hx hb hK hP 2 0 rfl rfl h.1 d_Mo_on_20 ?_
      have h := h.2
      refine lv_iadd hx hb d_Mo_on_21 ?_
      refine lv_icmp_ge (tgt := 82) hx hb d_Mo_on_22 (by decide) (fun c1 => ?_) (fun c1 => ?_)
      · have h := h.1 c1
        refine lv_iload hx hb d_Mo_on_82 (lv_at hl 4 rfl) ?_
        refine lv_if_ge (tgt := 101) hx hb d_Mo_on_84 (by decide) (fun c2 => ?_) (fun c2 => ?_)
        · have h := h.1 c2
          refine lv_aload_n hx hb d_Mo_on_101 rfl (lv_at hl 0 rfl) ?_
          refine va_get (D := (dC, dI)) (ci := 9) (v := .ref a_changeValue) (C := R_Mo) (T := F_Mo) (N := 31) hx hb hts zl_Mo hown hK hP 0 rfl rfl 14 (by decide) (hts _ zw_277) (fun _ h9 => h9) rfl d_Mo_on_102 ?_
          refine lv_iload hx hb d_Mo_on_105 (lv_at hl 4 rfl) ?_
          refine va_iald hx hb hK hP 4 0 rfl rfl h.1 d_Mo_on_107 ?_
          have h := h.2
          exact W.iret (v := k_changeValue v4.toNatClampNeg) hx hb hr (fun t ht hW => ⟨_, rfl, h, ht⟩) (fun q hq => nomatch hq) d_Mo_on_108
        · have h := h.2 c2
          refine lv_aload_n hx hb d_Mo_on_87 rfl (lv_at hl 0 rfl) ?_
          refine va_get (D := (dC, dI)) (ci := 9) (v := .ref a_first) (C := R_Mo) (T := F_Mo) (N := 31) hx hb hts zl_Mo hown hK hP 0 rfl rfl 9 (by decide) (hts _ zw_263) (fun _ h9 => h9) rfl d_Mo_on_88 ?_
          refine lv_bipush (v := 6) hx hb d_Mo_on_91 (by decide) ?_
          refine lv_iload_n hx hb d_Mo_on_93 rfl (lv_at hl 1 rfl) ?_
          refine lv_imul hx hb d_Mo_on_94 ?_
          refine lv_iload_n hx hb d_Mo_on_95 rfl (lv_at hl 2 rfl) ?_
          refine lv_iadd hx hb d_Mo_on_96 ?_
          refine va_iald hx hb hK hP 1 0 rfl rfl h.1 d_Mo_on_97 ?_
          have h := h.2
          refine lv_goto (tgt := 108) hx hb d_Mo_on_98 (by decide) ?_
          exact W.iret (v := k_first ((6 * p1) + p2).toNatClampNeg) hx hb hr (fun t ht hW => ⟨_, rfl, h, ht⟩) (fun q hq => nomatch hq) d_Mo_on_108
      · have h := h.2 c1
        refine lv_aload_n hx hb d_Mo_on_25 rfl (lv_at hl 0 rfl) ?_
        refine va_get (D := (dC, dI)) (ci := 9) (v := .ref a_changeField) (C := R_Mo) (T := F_Mo) (N := 31) hx hb hts zl_Mo hown hK hP 0 rfl rfl 13 (by decide) (hts _ zw_276) (fun _ h9 => h9) rfl d_Mo_on_26 ?_
        refine lv_iload hx hb d_Mo_on_29 (lv_at hl 5 rfl) ?_
        refine va_iald hx hb hK hP 3 0 rfl rfl h.1 d_Mo_on_31 ?_
        have h := h.2
        refine lv_iload_n hx hb d_Mo_on_32 rfl (lv_at hl 2 rfl) ?_
        refine lv_icmp_ne (tgt := 76) hx hb d_Mo_on_33 (by decide) (fun c3 => ?_) (fun c3 => ?_)
        · have h := h.1 c3
          exact B76 v4 v5 _ ih ls h (lv_sub hl [0, 1, 2, 3, 4, 5] rfl)
        · have h := h.2 c3
          refine lv_aload_n hx hb d_Mo_on_36 rfl (lv_at hl 0 rfl) ?_
          refine va_get (D := (dC, dI)) (ci := 9) (v := .ref a_changeFrom) (C := R_Mo) (T := F_Mo) (N := 31) hx hb hts zl_Mo hown hK hP 0 rfl rfl 15 (by decide) (hts _ zw_278) (fun _ h9 => h9) rfl d_Mo_on_37 ?_
          refine lv_iload hx hb d_Mo_on_40 (lv_at hl 5 rfl) ?_
          refine va_iald hx hb hK hP 5 0 rfl rfl h.1 d_Mo_on_42 ?_
          have h := h.2
          refine lv_iload_n hx hb d_Mo_on_43 rfl (lv_at hl 3 rfl) ?_
          refine lv_icmp_le (tgt := 50) hx hb d_Mo_on_44 (by decide) (fun c4 => ?_) (fun c4 => ?_)
          · have h := h.1 c4
            refine lv_iload hx hb d_Mo_on_50 (lv_at hl 4 rfl) ?_
            refine lv_if_lt (tgt := 72) hx hb d_Mo_on_52 (by decide) (fun c5 => ?_) (fun c5 => ?_)
            · have h := h.1 c5
              exact B72 v5 _ ih ls h (lv_sub hl [0, 1, 2, 3, 5] rfl)
            · have h := h.2 c5
              refine lv_aload_n hx hb d_Mo_on_55 rfl (lv_at hl 0 rfl) ?_
              refine va_get (D := (dC, dI)) (ci := 9) (v := .ref a_changeFrom) (C := R_Mo) (T := F_Mo) (N := 31) hx hb hts zl_Mo hown hK hP 0 rfl rfl 15 (by decide) (hts _ zw_278) (fun _ h9 => h9) rfl d_Mo_on_56 ?_
              refine lv_iload hx hb d_Mo_on_59 (lv_at hl 5 rfl) ?_
              refine va_iald hx hb hK hP 5 0 rfl rfl h.1 d_Mo_on_61 ?_
              have h := h.2
              refine lv_aload_n hx hb d_Mo_on_62 rfl (lv_at hl 0 rfl) ?_
              refine va_get (D := (dC, dI)) (ci := 9) (v := .ref a_changeFrom) (C := R_Mo) (T := F_Mo) (N := 31) hx hb hts zl_Mo hown hK hP 0 rfl rfl 15 (by decide) (hts _ zw_278) (fun _ h9 => h9) rfl d_Mo_on_63 ?_
              refine lv_iload hx hb d_Mo_on_66 (lv_at hl 4 rfl) ?_
              refine va_iald hx hb hK hP 5 0 rfl rfl h.1 d_Mo_on_68 ?_
              have h := h.2
              refine lv_icmp_lt (tgt := 76) hx hb d_Mo_on_69 (by decide) (fun c6 => ?_) (fun c6 => ?_)
              · have h := h.1 c6
                exact B76 v4 v5 _ ih ls h (lv_sub hl [0, 1, 2, 3, 4, 5] rfl)
              · have h := h.2 c6
                exact B72 v5 _ ih ls h (lv_sub hl [0, 1, 2, 3, 5] rfl)
          · have h := h.2 c4
            refine lv_goto (tgt := 76) hx hb d_Mo_on_47 (by decide) ?_
            exact B76 v4 v5 _ ih ls h (lv_sub hl [0, 1, 2, 3, 4, 5] rfl)
  unfold zp_Mo_on at h
  refine lv_iconst (v := (-1)) hx hb d_Mo_on_0 (by decide) ?_
  refine lv_istore (lv' := [(4, .int (-1)), (0, .ref h0), (1, .int p1), (2, .int p2), (3, .int p3)]) hx hb d_Mo_on_1 hl (by decide) rfl (fun ls hl => ?_)
  refine lv_bipush (v := 20) hx hb d_Mo_on_3 (by decide) ?_
  refine lv_iload_n hx hb d_Mo_on_5 rfl (lv_at hl 2 rfl) ?_
  refine lv_imul hx hb d_Mo_on_6 ?_
  refine lv_topi (fun y7 ey7 => ?_)
  have h := h y7 ey7
  refine lv_istore (lv' := [(5, .int y7), (4, .int (-1)), (0, .ref h0), (1, .int p1), (2, .int p2), (3, .int p3)]) hx hb d_Mo_on_7 hl (by decide) rfl (fun ls hl => ?_)
  obtain ⟨n, h⟩ := h
  exact B9 n (-1) y7 ls h (lv_sub hl [2, 3, 4, 5, 1, 0] rfl)
set_option maxHeartbeats 4000000 in
set_option maxRecDepth 100000 in
theorem zc_Mo_isMade (l : Launch) (dC : Nat → ClassId) (dI : Nat → Nat → Nat) (cI cZ cL : ClassId) (h0 a_credit a_customer a_due a_group a_orderOf a_first a_rule a_reserved a_changes a_changeField a_changeValue a_changeFrom a_changeTold a_rowItem a_rowDay a_rowKilos a_quoteItem a_quoteUntil a_quotePrice a_accepted a_taken : Nat) (k_thrown : Int32) (k_today : Int32) (k_orders : Int32) (k_items : Int32) (k_rows : Int32) (k_rowItem : Nat → Int32) (k_base : Int32) (k_perThousand : Int32) (k_perWidth : Int32) (k_quotes : Int32) (k_capacity : Int32) (p1 : Int32) (P : Int32 → Prop) (h : zp_Mo_isMade p1 k_rows k_rowItem P) : Met l y_Mo_isMade w_Mo_isMade ({ frames := 0, cells := 0, slots := 0, locals := 0 }) (va_Pc [.ref h0, .int p1] (fun U => va_P (dC, dI) vwCl [(h0, .inr (9, [.int k_thrown, .int k_today, .ref a_credit, .int k_orders, .ref a_customer, .ref a_due, .ref a_group, .int k_items, .ref a_orderOf, .ref a_first, .ref a_rule, .ref a_reserved, .ref a_changes, .ref a_changeField, .ref a_changeValue, .ref a_changeFrom, .ref a_changeTold, .int k_rows, .ref a_rowItem, .ref a_rowDay, .ref a_rowKilos, .int k_base, .int k_perThousand, .int k_perWidth, .int k_quotes, .ref a_quoteItem, .ref a_quoteUntil, .ref a_quotePrice, .ref a_accepted, .int k_capacity, .ref a_taken])), (a_rowItem, .inl (cI, 200, .inl k_rowItem))] U.heap ∧ va_K (dC, dI) vwCl [(cI, .int), (cZ, .boolean), (cL, .long)] U ∧ zn_ok U)) (zq_Ri P) 0 0 (fun _ => False) := by
  refine Met.ofW (cc := b_Mo_isMade) (maxL := 3) (ret := (some .boolean)) (by decide) rfl ?_
  intro p e s m args below meth c s₁ B hml hv
  obtain ⟨rfl, hP, hK, hN⟩ := hv
  have hx := B.exec
  have hb := B.bytes
  have hr := B.returns
  have hts0 := atoms_spec (ws := w_Mo_isMade) B.pre
  have hts : ∀ w ∈ zw_T, w.before ([.ref h0, .int p1] : List Value).toArray s = true := fun w h => hts0 w (List.mem_cons_of_mem _ h)
  have hown : s.vm.findClass R_Mo = some m.cls := findClass_of_methodNamed B.named
  have hlocks := B.notSynchronized
  have hl := lv_entry ([.ref h0, .int p1]) (n := 3) (Nat.le_of_ble_eq_true rfl)
  rw [lg_entry_eq]
  generalize (lg_sl ([.ref h0, .int p1]) ++ List.replicate (3 - (lg_sl ([.ref h0, .int p1])).length) Slot.unset).toArray = ls at hl ⊢
  have hl : lv_has ls 3 [(0, .ref h0), (1, .int p1)] := hl
  have B2 : ∀ (n : Nat) (v2 : Int32), ∀ (ls : Array Slot), zp_Mo_isMade_2 p1 k_rows k_rowItem P n v2 → lv_has ls 3 [(0, .ref h0), (1, .int p1), (2, .int v2)] → W p l e (headSpec w_Mo_isMade ({ frames := 0, cells := 0, slots := 0, locals := 0 })).room s m ([.ref h0, .int p1] : List Value).toArray below meth c s.heap [] 0 0 (MQ below (zq_Ri P) ([.ref h0, .int p1] : List Value).toArray s 0 0 (fun _ => False)) (F0 m 2 ls []) := by
    intro n
    induction n with
    | zero =>
      intro v2 ls h hl
      exact h.elim
    | succ n ih =>
      intro v2 ls h hl
      unfold zp_Mo_isMade_2 at h
      refine lv_iload_n hx hb d_Mo_isMade_2 rfl (lv_at hl 2 rfl) ?_
      refine lv_aload_n hx hb d_Mo_isMade_3 rfl (lv_at hl 0 rfl) ?_
      refine va_get (D := (dC, dI)) (ci := 9) (v := .int k_rows) (C := R_Mo) (T := F_Mo) (N := 31) hx hb hts zl_Mo hown hK hP 0 rfl rfl 17 (by decide) (hts _ zw_292) (fun _ h9 => h9) rfl d_Mo_isMade_4 ?_
      refine lv_icmp_ge (tgt := 28) hx hb d_Mo_isMade_7 (by decide) (fun c1 => ?_) (fun c1 => ?_)
      · have h := h.1 c1
        refine lv_iconst (v := 0) hx hb d_Mo_isMade_28 (by decide) ?_
        exact W.zret (v := 0) (ty := .boolean) hx hb hr h.1 (fun t ht hW => ⟨_, rfl, h.2, ht⟩) (fun q hq => nomatch hq) d_Mo_isMade_29
      · have h := h.2 c1
        refine lv_aload_n hx hb d_Mo_isMade_10 rfl (lv_at hl 0 rfl) ?_
        refine va_get (D := (dC, dI)) (ci := 9) (v := .ref a_rowItem) (C := R_Mo) (T := F_Mo) (N := 31) hx hb hts zl_Mo hown hK hP 0 rfl rfl 18 (by decide) (hts _ zw_293) (fun _ h9 => h9) rfl d_Mo_isMade_11 ?_
        refine lv_iload_n hx hb d_Mo_isMade_14 rfl (lv_at hl 2 rfl) ?_
        refine va_iald hx hb hK hP 1 0 rfl rfl h.1 d_Mo_isMade_15 ?_
        have h := h.2
        refine lv_iload_n hx hb d_Mo_isMade_16 rfl (lv_at hl 1 rfl) ?_
        refine lv_icmp_ne (tgt := 22) hx hb d_Mo_isMade_17 (by decide) (fun c2 => ?_) (fun c2 => ?_)
        · have h := h.1 c2
          refine lv_iinc (v := v2 + 1) (lv' := [(2, .int (v2 + 1)), (0, .ref h0), (1, .int p1)]) hx hb d_Mo_isMade_22 hl (k := 2) rfl rfl (by decide) rfl (fun ls hl => ?_)
          refine lv_goto (tgt := 2) hx hb d_Mo_isMade_25 (by decide) ?_
          exact ih (v2 + 1) ls h (lv_sub hl [1, 2, 0] rfl)
        · have h := h.2 c2
          refine lv_iconst (v := 1) hx hb d_Mo_isMade_20 (by decide) ?_
          exact W.zret (v := 1) (ty := .boolean) hx hb hr h.1 (fun t ht hW => ⟨_, rfl, h.2, ht⟩) (fun q hq => nomatch hq) d_Mo_isMade_21
  unfold zp_Mo_isMade at h
  refine lv_iconst (v := 0) hx hb d_Mo_isMade_0 (by decide) ?_
  refine lv_istore_n (lv' := [(2, .int 0), (0, .ref h0), (1, .int p1)]) hx hb d_Mo_isMade_1 rfl hl (by decide) rfl (fun ls hl => ?_)
  obtain ⟨n, h⟩ := h
  exact B2 n 0 ls h (lv_sub hl [1, 2, 0] rfl)
set_option maxHeartbeats 4000000 in
set_option maxRecDepth 100000 in
theorem zc_Mo_isValue (l : Launch) (dC : Nat → ClassId) (dI : Nat → Nat → Nat) (cI cZ cL : ClassId) (h0 a_credit a_customer a_due a_group a_orderOf a_first a_rule a_reserved a_changes a_changeField a_changeValue a_changeFrom a_changeTold a_rowItem a_rowDay a_rowKilos a_quoteItem a_quoteUntil a_quotePrice a_accepted a_taken : Nat) (k_thrown : Int32) (k_today : Int32) (k_orders : Int32) (k_items : Int32) (k_rows : Int32) (k_base : Int32) (k_perThousand : Int32) (k_perWidth : Int32) (k_quotes : Int32) (k_capacity : Int32) (p1 : Int32) (p2 : Int32) (P : Int32 → Prop) (h : zp_Mo_isValue p1 p2 k_today P) : Met l y_Mo_isValue w_Mo_isValue ({ frames := 2, cells := 0, slots := 0, locals := 42 }) (va_Pc [.ref h0, .int p1, .int p2] (fun U => va_P (dC, dI) vwCl [(h0, .inr (9, [.int k_thrown, .int k_today, .ref a_credit, .int k_orders, .ref a_customer, .ref a_due, .ref a_group, .int k_items, .ref a_orderOf, .ref a_first, .ref a_rule, .ref a_reserved, .ref a_changes, .ref a_changeField, .ref a_changeValue, .ref a_changeFrom, .ref a_changeTold, .int k_rows, .ref a_rowItem, .ref a_rowDay, .ref a_rowKilos, .int k_base, .int k_perThousand, .int k_perWidth, .int k_quotes, .ref a_quoteItem, .ref a_quoteUntil, .ref a_quotePrice, .ref a_accepted, .int k_capacity, .ref a_taken]))] U.heap ∧ va_K (dC, dI) vwCl [(cI, .int), (cZ, .boolean), (cL, .long)] U ∧ zn_ok U)) (zq_Ri P) 0 0 (fun _ => False) := by
  refine Met.ofW (cc := b_Mo_isValue) (maxL := 3) (ret := (some .boolean)) (by decide) rfl ?_
  intro p e s m args below meth c s₁ B hml hv
  obtain ⟨rfl, hP, hK, hN⟩ := hv
  have hx := B.exec
  have hb := B.bytes
  have hr := B.returns
  have hts0 := atoms_spec (ws := w_Mo_isValue) B.pre
  have hts : ∀ w ∈ zw_T, w.before ([.ref h0, .int p1, .int p2] : List Value).toArray s = true := fun w h => hts0 w (List.mem_cons_of_mem _ h)
  have hown : s.vm.findClass R_Mo = some m.cls := findClass_of_methodNamed B.named
  have hlocks := B.notSynchronized
  have hl := lv_entry ([.ref h0, .int p1, .int p2]) (n := 3) (Nat.le_of_ble_eq_true rfl)
  rw [lg_entry_eq]
  generalize (lg_sl ([.ref h0, .int p1, .int p2]) ++ List.replicate (3 - (lg_sl ([.ref h0, .int p1, .int p2])).length) Slot.unset).toArray = ls at hl ⊢
  have hl : lv_has ls 3 [(0, .ref h0), (1, .int p1), (2, .int p2)] := hl
  unfold zp_Mo_isValue at h
  refine lv_iload_n hx hb d_Mo_isValue_0 rfl (lv_at hl 1 rfl) ?_
  refine lv_iconst (v := 3) hx hb d_Mo_isValue_1 (by decide) ?_
  refine lv_icmp_ge (tgt := 12) hx hb d_Mo_isValue_2 (by decide) (fun c1 => ?_) (fun c1 => ?_)
  · have h := h.1 c1
    refine lv_iload_n hx hb d_Mo_isValue_12 rfl (lv_at hl 1 rfl) ?_
    refine lv_iconst (v := 5) hx hb d_Mo_isValue_13 (by decide) ?_
    refine lv_icmp_ge (tgt := 24) hx hb d_Mo_isValue_14 (by decide) (fun c2 => ?_) (fun c2 => ?_)
    · have h := h.1 c2
      refine lv_iload_n hx hb d_Mo_isValue_24 rfl (lv_at hl 2 rfl) ?_
      refine lv_aload_n hx hb d_Mo_isValue_25 rfl (lv_at hl 0 rfl) ?_
      refine va_get (D := (dC, dI)) (ci := 9) (v := .int k_today) (C := R_Mo) (T := F_Mo) (N := 31) hx hb hts zl_Mo hown hK hP 0 rfl rfl 1 (by decide) (hts _ zw_261) (fun _ h9 => h9) rfl d_Mo_isValue_26 ?_
      refine lv_sipush (v := 9999) hx hb d_Mo_isValue_29 (by decide) ?_
      have hPc := hP.sub (ws' := []) [] rfl
      refine zq_calli (va_runS (As := [.int p2, .int k_today, .int 9999]) (rest := []) ⟨hx, hb, hml, hown, hts⟩ (zc_Mo_in l dC dI cI cZ cL p2 k_today 9999 _ h) (cwS 3 hts (zg_S zw_247 zw_248 zw_249 zw_250) rfl rfl rfl (by decide +kernel) ⟨Nat.le_of_ble_eq_true rfl, Nat.le_of_ble_eq_true rfl⟩) ⟨zb_p, zb_preP hPc hK hN⟩ rfl rfl hl.1 rfl (lv_room (Nat.le_of_ble_eq_true rfl)) d_Mo_isValue_32 ⟨Nat.le_of_ble_eq_true rfl, Nat.le_of_ble_eq_true rfl⟩) (fun r3 h => ?_)
      exact W.zret (v := r3) (ty := .boolean) hx hb hr h.1 (fun t ht hW => ⟨_, rfl, h.2, ht⟩) (fun q hq => nomatch hq) d_Mo_isValue_35
    · have h := h.2 c2
      refine lv_iload_n hx hb d_Mo_isValue_17 rfl (lv_at hl 2 rfl) ?_
      have hPc := hP.sub (ws' := []) [] rfl
      refine zq_calli (va_runS (As := [.int p2]) (rest := []) ⟨hx, hb, hml, hown, hts⟩ (zc_Mo_isWeight l dC dI cI cZ cL p2 _ h) (cwS 1 hts (zg_S zw_288 zw_289 zw_249 zw_290) rfl rfl rfl (by decide +kernel) ⟨Nat.le_of_ble_eq_true rfl, Nat.le_of_ble_eq_true rfl⟩) ⟨zb_p, zb_preP hPc hK hN⟩ rfl rfl hl.1 rfl (lv_room (Nat.le_of_ble_eq_true rfl)) d_Mo_isValue_18 ⟨Nat.le_of_ble_eq_true rfl, Nat.le_of_ble_eq_true rfl⟩) (fun r4 h => ?_)
      refine lv_goto (tgt := 35) hx hb d_Mo_isValue_21 (by decide) ?_
      exact W.zret (v := r4) (ty := .boolean) hx hb hr h.1 (fun t ht hW => ⟨_, rfl, h.2, ht⟩) (fun q hq => nomatch hq) d_Mo_isValue_35
  · have h := h.2 c1
    refine lv_iload_n hx hb d_Mo_isValue_5 rfl (lv_at hl 2 rfl) ?_
    have hPc := hP.sub (ws' := []) [] rfl
    refine zq_calli (va_runS (As := [.int p2]) (rest := []) ⟨hx, hb, hml, hown, hts⟩ (zc_Mo_isSize l dC dI cI cZ cL p2 _ h) (cwS 1 hts (zg_S zw_272 zw_273 zw_249 zw_274) rfl rfl rfl (by decide +kernel) ⟨Nat.le_of_ble_eq_true rfl, Nat.le_of_ble_eq_true rfl⟩) ⟨zb_p, zb_preP hPc hK hN⟩ rfl rfl hl.1 rfl (lv_room (Nat.le_of_ble_eq_true rfl)) d_Mo_isValue_6 ⟨Nat.le_of_ble_eq_true rfl, Nat.le_of_ble_eq_true rfl⟩) (fun r5 h => ?_)
    refine lv_goto (tgt := 35) hx hb d_Mo_isValue_9 (by decide) ?_
    exact W.zret (v := r5) (ty := .boolean) hx hb hr h.1 (fun t ht hW => ⟨_, rfl, h.2, ht⟩) (fun q hq => nomatch hq) d_Mo_isValue_35
set_option maxHeartbeats 4000000 in
set_option maxRecDepth 100000 in
theorem zc_Mo_sum (l : Launch) (dC : Nat → ClassId) (dI : Nat → Nat → Nat) (cI cZ cL : ClassId) (h0 a_credit a_customer a_due a_group a_orderOf a_first a_rule a_reserved a_changes a_changeField a_changeValue a_changeFrom a_changeTold a_rowItem a_rowDay a_rowKilos a_quoteItem a_quoteUntil a_quotePrice a_accepted a_taken : Nat) (k_thrown : Int32) (k_today : Int32) (k_orders : Int32) (k_items : Int32) (k_rows : Int32) (k_rowItem : Nat → Int32) (k_rowDay : Nat → Int32) (k_rowKilos : Nat → Int32) (k_base : Int32) (k_perThousand : Int32) (k_perWidth : Int32) (k_quotes : Int32) (k_capacity : Int32) (p1 : Int32) (p2 : Int32) (P : Int32 → Prop) (h : zp_Mo_sum p1 p2 k_rows k_rowItem k_rowDay k_rowKilos P) : Met l y_Mo_sum w_Mo_sum ({ frames := 0, cells := 0, slots := 0, locals := 0 }) (va_Pc [.ref h0, .int p1, .int p2] (fun U => va_P (dC, dI) vwCl [(h0, .inr (9, [.int k_thrown, .int k_today, .ref a_credit, .int k_orders, .ref a_customer, .ref a_due, .ref a_group, .int k_items, .ref a_orderOf, .ref a_first, .ref a_rule, .ref a_reserved, .ref a_changes, .ref a_changeField, .ref a_changeValue, .ref a_changeFrom, .ref a_changeTold, .int k_rows, .ref a_rowItem, .ref a_rowDay, .ref a_rowKilos, .int k_base, .int k_perThousand, .int k_perWidth, .int k_quotes, .ref a_quoteItem, .ref a_quoteUntil, .ref a_quotePrice, .ref a_accepted, .int k_capacity, .ref a_taken])), (a_rowItem, .inl (cI, 200, .inl k_rowItem)), (a_rowDay, .inl (cI, 200, .inl k_rowDay)), (a_rowKilos, .inl (cI, 200, .inl k_rowKilos))] U.heap ∧ va_K (dC, dI) vwCl [(cI, .int), (cZ, .boolean), (cL, .long)] U ∧ zn_ok U)) (zq_Ri P) 0 0 (fun _ => False) := by
  refine Met.ofW (cc := b_Mo_sum) (maxL := 5) (ret := (some .int)) (by decide) rfl ?_
  intro p e s m args below meth c s₁ B hml hv
  obtain ⟨rfl, hP, hK, hN⟩ := hv
  have hx := B.exec
  have hb := B.bytes
  have hr := B.returns
  have hts0 := atoms_spec (ws := w_Mo_sum) B.pre
  have hts : ∀ w ∈ zw_T, w.before ([.ref h0, .int p1, .int p2] : List Value).toArray s = true := fun w h => hts0 w (List.mem_cons_of_mem _ h)
  have hown : s.vm.findClass R_Mo = some m.cls := findClass_of_methodNamed B.named
  have hlocks := B.notSynchronized
  have hl := lv_entry ([.ref h0, .int p1, .int p2]) (n := 5) (Nat.le_of_ble_eq_true rfl)
  rw [lg_entry_eq]
  generalize (lg_sl ([.ref h0, .int p1, .int p2]) ++ List.replicate (5 - (lg_sl ([.ref h0, .int p1, .int p2])).length) Slot.unset).toArray = ls at hl ⊢
  have hl : lv_has ls 5 [(0, .ref h0), (1, .int p1), (2, .int p2)] := hl
  have B46 : ∀ (v3 : Int32) (v4 : Int32) (K5 : Int32 → Int32 → Prop) (hK5 : ∀ (v3 : Int32) (v4 : Int32), ∀ (ls : Array Slot), K5 v3 v4 → lv_has ls 5 [(0, .ref h0), (1, .int p1), (2, .int p2), (3, .int v3), (4, .int v4)] → W p l e (headSpec w_Mo_sum ({ frames := 0, cells := 0, slots := 0, locals := 0 })).room s m ([.ref h0, .int p1, .int p2] : List Value).toArray below meth c s.heap [] 0 0 (MQ below (zq_Ri P) ([.ref h0, .int p1, .int p2] : List Value).toArray s 0 0 (fun _ => False)) (F0 m 5 ls [])), ∀ (ls : Array Slot), zp_Mo_sum_46 K5 v3 v4 → lv_has ls 5 [(0, .ref h0), (1, .int p1), (2, .int p2), (3, .int v3), (4, .int v4)] → W p l e (headSpec w_Mo_sum ({ frames := 0, cells := 0, slots := 0, locals := 0 })).room s m ([.ref h0, .int p1, .int p2] : List Value).toArray below meth c s.heap [] 0 0 (MQ below (zq_Ri P) ([.ref h0, .int p1, .int p2] : List Value).toArray s 0 0 (fun _ => False)) (F0 m 46 ls []) := by
    intro v3 v4 K5 hK5 ls h hl
    unfold zp_Mo_sum_46 at h
    refine lv_iinc (v := v4 + 1) (lv' := [(4, .int (v4 + 1)), (0, .ref h0), (1, .int p1), (2, .int p2), (3, .int v3)]) hx hb d_Mo_sum_46 hl (k := 4) rfl rfl (by decide) rfl (fun ls hl => ?_)
    refine lv_goto (tgt := 5) hx hb d_Mo_sum_49 (by decide) ?_
    exact hK5 v3 (v4 + 1) ls h (lv_sub hl [1, 2, 3, 4, 0] rfl)
  have B5 : ∀ (n : Nat) (v3 : Int32) (v4 : Int32), ∀ (ls : Array Slot), zp_Mo_sum_5 p1 p2 k_rows k_rowItem k_rowDay k_rowKilos P n v3 v4 → lv_has ls 5 [(0, .ref h0), (1, .int p1), (2, .int p2), (3, .int v3), (4, .int v4)] → W p l e (headSpec w_Mo_sum ({ frames := 0, cells := 0, slots := 0, locals := 0 })).room s m ([.ref h0, .int p1, .int p2] : List Value).toArray below meth c s.heap [] 0 0 (MQ below (zq_Ri P) ([.ref h0, .int p1, .int p2] : List Value).toArray s 0 0 (fun _ => False)) (F0 m 5 ls []) := by
    intro n
    induction n with
    | zero =>
      intro v3 v4 ls h hl
      exact h.elim
    | succ n ih =>
      intro v3 v4 ls h hl
      unfold zp_Mo_sum_5 at h
      refine lv_iload hx hb d_Mo_sum_5 (lv_at hl 4 rfl) ?_
      refine lv_aload_n hx hb d_Mo_sum_7 rfl (lv_at hl 0 rfl) ?_
      refine va_get (D := (dC, dI)) (ci := 9) (v := .int k_rows) (C := R_Mo) (T := F_Mo) (N := 31) hx hb hts zl_Mo hown hK hP 0 rfl rfl 17 (by decide) (hts _ zw_292) (fun _ h9 => h9) rfl d_Mo_sum_8 ?_
      refine lv_icmp_ge (tgt := 52) hx hb d_Mo_sum_11 (by decide) (fun c1 => ?_) (fun c1 => ?_)
      · have h := h.1 c1
        refine lv_iload_n hx hb d_Mo_sum_52 rfl (lv_at hl 3 rfl) ?_
        exact W.iret (v := v3) hx hb hr (fun t ht hW => ⟨_, rfl, h, ht⟩) (fun q hq => nomatch hq) d_Mo_sum_53
      · have h := h.2 c1
        refine lv_aload_n hx hb d_Mo_sum_14 rfl (lv_at hl 0 rfl) ?_
        refine va_get (D := (dC, dI)) (ci := 9) (v := .ref a_rowItem) (C := R_Mo) (T := F_Mo) (N := 31) hx hb hts zl_Mo hown hK hP 0 rfl rfl 18 (by decide) (hts _ zw_293) (fun _ h9 => h9) rfl d_Mo_sum_15 ?_
        refine lv_iload hx hb d_Mo_sum_18 (lv_at hl 4 rfl) ?_
        refine va_iald hx hb hK hP 1 0 rfl rfl h.1 d_Mo_sum_20 ?_
        have h := h.2
        refine lv_iload_n hx hb d_Mo_sum_21 rfl (lv_at hl 1 rfl) ?_
        refine lv_icmp_ne (tgt := 46) hx hb d_Mo_sum_22 (by decide) (fun c2 => ?_) (fun c2 => ?_)
        · have h := h.1 c2
          exact B46 v3 v4 _ ih ls h (lv_sub hl [0, 1, 2, 3, 4] rfl)
        · have h := h.2 c2
          refine lv_aload_n hx hb d_Mo_sum_25 rfl (lv_at hl 0 rfl) ?_
          refine va_get (D := (dC, dI)) (ci := 9) (v := .ref a_rowDay) (C := R_Mo) (T := F_Mo) (N := 31) hx hb hts zl_Mo hown hK hP 0 rfl rfl 19 (by decide) (hts _ zw_309) (fun _ h9 => h9) rfl d_Mo_sum_26 ?_
          refine lv_iload hx hb d_Mo_sum_29 (lv_at hl 4 rfl) ?_
          refine va_iald hx hb hK hP 2 0 rfl rfl h.1 d_Mo_sum_31 ?_
          have h := h.2
          refine lv_iload_n hx hb d_Mo_sum_32 rfl (lv_at hl 2 rfl) ?_
          refine lv_icmp_gt (tgt := 46) hx hb d_Mo_sum_33 (by decide) (fun c3 => ?_) (fun c3 => ?_)
          · have h := h.1 c3
            exact B46 v3 v4 _ ih ls h (lv_sub hl [0, 1, 2, 3, 4] rfl)
          · have h := h.2 c3
            refine lv_iload_n hx hb d_Mo_sum_36 rfl (lv_at hl 3 rfl) ?_
            refine lv_aload_n hx hb d_Mo_sum_37 rfl (lv_at hl 0 rfl) ?_
            refine va_get (D := (dC, dI)) (ci := 9) (v := .ref a_rowKilos) (C := R_Mo) (T := F_Mo) (N := 31) hx hb hts zl_Mo hown hK hP 0 rfl rfl 20 (by decide) (hts _ zw_310) (fun _ h9 => h9) rfl d_Mo_sum_38 ?_
            refine lv_iload hx hb d_Mo_sum_41 (lv_at hl 4 rfl) ?_
            refine va_iald hx hb hK hP 3 0 rfl rfl h.1 d_Mo_sum_43 ?_
            have h := h.2
            refine lv_iadd hx hb d_Mo_sum_44 ?_
            refine lv_topi (fun y4 ey4 => ?_)
            have h := h y4 ey4
            refine lv_istore_n (lv' := [(3, .int y4), (0, .ref h0), (1, .int p1), (2, .int p2), (4, .int v4)]) hx hb d_Mo_sum_45 rfl hl (by decide) rfl (fun ls hl => ?_)
            exact B46 y4 v4 _ ih ls h (lv_sub hl [1, 2, 3, 0, 4] rfl)
  unfold zp_Mo_sum at h
  refine lv_iconst (v := 0) hx hb d_Mo_sum_0 (by decide) ?_
  refine lv_istore_n (lv' := [(3, .int 0), (0, .ref h0), (1, .int p1), (2, .int p2)]) hx hb d_Mo_sum_1 rfl hl (by decide) rfl (fun ls hl => ?_)
  refine lv_iconst (v := 0) hx hb d_Mo_sum_2 (by decide) ?_
  refine lv_istore (lv' := [(4, .int 0), (3, .int 0), (0, .ref h0), (1, .int p1), (2, .int p2)]) hx hb d_Mo_sum_3 hl (by decide) rfl (fun ls hl => ?_)
  obtain ⟨n, h⟩ := h
  exact B5 n 0 0 ls h (lv_sub hl [2, 3, 4, 1, 0] rfl)
set_option maxHeartbeats 4000000 in
set_option maxRecDepth 100000 in
theorem zc_Mo_stateOn (l : Launch) (dC : Nat → ClassId) (dI : Nat → Nat → Nat) (cI cZ cL : ClassId) (h0 a_credit a_customer a_due a_group a_orderOf a_first a_rule a_reserved a_changes a_changeField a_changeValue a_changeFrom a_changeTold a_rowItem a_rowDay a_rowKilos a_quoteItem a_quoteUntil a_quotePrice a_accepted a_taken : Nat) (k_thrown : Int32) (k_today : Int32) (k_orders : Int32) (k_items : Int32) (k_first : Nat → Int32) (k_changes : Nat → Int32) (k_changeField : Nat → Int32) (k_changeValue : Nat → Int32) (k_changeFrom : Nat → Int32) (k_rows : Int32) (k_rowItem : Nat → Int32) (k_rowDay : Nat → Int32) (k_rowKilos : Nat → Int32) (k_base : Int32) (k_perThousand : Int32) (k_perWidth : Int32) (k_quotes : Int32) (k_capacity : Int32) (p1 : Int32) (p2 : Int32) (P : Int32 → Prop) (h : zp_Mo_stateOn p1 p2 k_first k_changes k_changeField k_changeValue k_changeFrom k_rows k_rowItem k_rowDay k_rowKilos P) : Met l y_Mo_stateOn w_Mo_stateOn ({ frames := 1, cells := 0, slots := 0, locals := 25 }) (va_Pc [.ref h0, .int p1, .int p2] (fun U => va_P (dC, dI) vwCl [(h0, .inr (9, [.int k_thrown, .int k_today, .ref a_credit, .int k_orders, .ref a_customer, .ref a_due, .ref a_group, .int k_items, .ref a_orderOf, .ref a_first, .ref a_rule, .ref a_reserved, .ref a_changes, .ref a_changeField, .ref a_changeValue, .ref a_changeFrom, .ref a_changeTold, .int k_rows, .ref a_rowItem, .ref a_rowDay, .ref a_rowKilos, .int k_base, .int k_perThousand, .int k_perWidth, .int k_quotes, .ref a_quoteItem, .ref a_quoteUntil, .ref a_quotePrice, .ref a_accepted, .int k_capacity, .ref a_taken])), (a_first, .inl (cI, 360, .inl k_first)), (a_changes, .inl (cI, 60, .inl k_changes)), (a_changeField, .inl (cI, 1200, .inl k_changeField)), (a_changeValue, .inl (cI, 1200, .inl k_changeValue)), (a_changeFrom, .inl (cI, 1200, .inl k_changeFrom)), (a_rowItem, .inl (cI, 200, .inl k_rowItem)), (a_rowDay, .inl (cI, 200, .inl k_rowDay)), (a_rowKilos, .inl (cI, 200, .inl k_rowKilos))] U.heap ∧ va_K (dC, dI) vwCl [(cI, .int), (cZ, .boolean), (cL, .long)] U ∧ zn_ok U)) (zq_Ri P) 0 0 (fun _ => False) := by
  refine Met.ofW (cc := b_Mo_stateOn) (maxL := 4) (ret := (some .int)) (by decide) rfl ?_
  intro p e s m args below meth c s₁ B hml hv
  obtain ⟨rfl, hP, hK, hN⟩ := hv
  have hx := B.exec
  have hb := B.bytes
  have hr := B.returns
  have hts0 := atoms_spec (ws := w_Mo_stateOn) B.pre
  have hts : ∀ w ∈ zw_T, w.before ([.ref h0, .int p1, .int p2] : List Value).toArray s = true := fun w h => hts0 w (List.mem_cons_of_mem _ h)
  have hown : s.vm.findClass R_Mo = some m.cls := findClass_of_methodNamed B.named
  have hlocks := B.notSynchronized
  have hl := lv_entry ([.ref h0, .int p1, .int p2]) (n := 4) (Nat.le_of_ble_eq_true rfl)
  rw [lg_entry_eq]
  generalize (lg_sl ([.ref h0, .int p1, .int p2]) ++ List.replicate (4 - (lg_sl ([.ref h0, .int p1, .int p2])).length) Slot.unset).toArray = ls at hl ⊢
  have hl : lv_has ls 4 [(0, .ref h0), (1, .int p1), (2, .int p2)] := hl
  unfold zp_Mo_stateOn at h
  refine lv_aload_n hx hb d_Mo_stateOn_0 rfl (lv_at hl 0 rfl) ?_
  refine lv_iload_n hx hb d_Mo_stateOn_1 rfl (lv_at hl 1 rfl) ?_
  refine lv_iload_n hx hb d_Mo_stateOn_2 rfl (lv_at hl 2 rfl) ?_
  have hPc := hP.sub (ws' := [(h0, .inr (9, [.int k_thrown, .int k_today, .ref a_credit, .int k_orders, .ref a_customer, .ref a_due, .ref a_group, .int k_items, .ref a_orderOf, .ref a_first, .ref a_rule, .ref a_reserved, .ref a_changes, .ref a_changeField, .ref a_changeValue, .ref a_changeFrom, .ref a_changeTold, .int k_rows, .ref a_rowItem, .ref a_rowDay, .ref a_rowKilos, .int k_base, .int k_perThousand, .int k_perWidth, .int k_quotes, .ref a_quoteItem, .ref a_quoteUntil, .ref a_quotePrice, .ref a_accepted, .int k_capacity, .ref a_taken])), (a_rowItem, .inl (cI, 200, .inl k_rowItem)), (a_rowDay, .inl (cI, 200, .inl k_rowDay)), (a_rowKilos, .inl (cI, 200, .inl k_rowKilos))]) [0, 6, 7, 8] rfl
  refine zq_calli (va_runV (As := [.int p1, .int p2]) (rest := []) ⟨hx, hb, hml, hown, hts⟩ (zc_Mo_sum l dC dI cI cZ cL h0 a_credit a_customer a_due a_group a_orderOf a_first a_rule a_reserved a_changes a_changeField a_changeValue a_changeFrom a_changeTold a_rowItem a_rowDay a_rowKilos a_quoteItem a_quoteUntil a_quotePrice a_accepted a_taken k_thrown k_today k_orders k_items k_rows k_rowItem k_rowDay k_rowKilos k_base k_perThousand k_perWidth k_quotes k_capacity p1 p2 _ h) (cwV 2 hts (zg_V zw_311 zw_312 zw_313 zw_249 zw_314) rfl rfl rfl (by decide +kernel) ⟨Nat.le_of_ble_eq_true rfl, Nat.le_of_ble_eq_true rfl⟩) ⟨zb_p, va_recv hK hPc (ci := 9) (q0 := 0) rfl rfl, zb_preP hPc hK hN⟩ rfl rfl hl.1 rfl (lv_room (Nat.le_of_ble_eq_true rfl)) d_Mo_stateOn_3 ⟨Nat.le_of_ble_eq_true rfl, Nat.le_of_ble_eq_true rfl⟩) (fun r1 h => ?_)
  refine lv_istore_n (lv' := [(3, .int r1), (0, .ref h0), (1, .int p1), (2, .int p2)]) hx hb d_Mo_stateOn_6 rfl hl (by decide) rfl (fun ls hl => ?_)
  refine lv_iload_n hx hb d_Mo_stateOn_7 rfl (lv_at hl 0 rfl) ?_
  refine lv_aload_n hx hb d_Mo_stateOn_8 rfl (lv_at hl 1 rfl) ?_
  refine lv_iload_n hx hb d_Mo_stateOn_9 rfl (lv_at hl 2 rfl) ?_
  refine lv_iconst (v := 4) hx hb d_Mo_stateOn_10 (by decide) ?_
  refine lv_iload_n hx hb d_Mo_stateOn_11 rfl (lv_at hl 3 rfl) ?_
  have hPc := hP.sub (ws' := [(h0, .inr (9, [.int k_thrown, .int k_today, .ref a_credit, .int k_orders, .ref a_customer, .ref a_due, .ref a_group, .int k_items, .ref a_orderOf, .ref a_first, .ref a_rule, .ref a_reserved, .ref a_changes, .ref a_changeField, .ref a_changeValue, .ref a_changeFrom, .ref a_changeTold, .int k_rows, .ref a_rowItem, .ref a_rowDay, .ref a_rowKilos, .int k_base, .int k_perThousand, .int k_perWidth, .int k_quotes, .ref a_quoteItem, .ref a_quoteUntil, .ref a_quotePrice, .ref a_accepted, .int k_capacity, .ref a_taken])), (a_first, .inl (cI, 360, .inl k_first)), (a_changes, .inl (cI, 60, .inl k_changes)), (a_changeField, .inl (cI, 1200, .inl k_changeField)), (a_changeValue, .inl (cI, 1200, .inl k_changeValue)), (a_changeFrom, .inl (cI, 1200, .inl k_changeFrom))]) [0, 1, 2, 3, 4, 5] rfl
  refine zq_calli (va_runV (As := [.int p1, .int 4, .int p2]) (rest := [.int r1]) ⟨hx, hb, hml, hown, hts⟩ (zc_Mo_on l dC dI cI cZ cL h0 a_credit a_customer a_due a_group a_orderOf a_first a_rule a_reserved a_changes a_changeField a_changeValue a_changeFrom a_changeTold a_rowItem a_rowDay a_rowKilos a_quoteItem a_quoteUntil a_quotePrice a_accepted a_taken k_thrown k_today k_orders k_items k_first k_changes k_changeField k_changeValue k_changeFrom k_rows k_base k_perThousand k_perWidth k_quotes k_capacity p1 4 p2 _ h) (cwV 3 hts (zg_V zw_294 zw_295 zw_296 zw_249 zw_297) rfl rfl rfl (by decide +kernel) ⟨Nat.le_of_ble_eq_true rfl, Nat.le_of_ble_eq_true rfl⟩) ⟨zb_p, va_recv hK hPc (ci := 9) (q0 := 0) rfl rfl, zb_preP hPc hK hN⟩ rfl rfl hl.1 rfl (lv_room (Nat.le_of_ble_eq_true rfl)) d_Mo_stateOn_12 ⟨Nat.le_of_ble_eq_true rfl, Nat.le_of_ble_eq_true rfl⟩) (fun r2 h => ?_)
  refine lv_icmp_le (tgt := 20) hx hb d_Mo_stateOn_15 (by decide) (fun c3 => ?_) (fun c3 => ?_)
  · have h := h.1 c3
    refine lv_iload_n hx hb d_Mo_stateOn_20 rfl (lv_at hl 0 rfl) ?_
    refine lv_aload_n hx hb d_Mo_stateOn_21 rfl (lv_at hl 1 rfl) ?_
    refine lv_iload_n hx hb d_Mo_stateOn_22 rfl (lv_at hl 2 rfl) ?_
    refine lv_iconst (v := 3) hx hb d_Mo_stateOn_23 (by decide) ?_
    refine lv_iload_n hx hb d_Mo_stateOn_24 rfl (lv_at hl 3 rfl) ?_
    have hPc := hP.sub (ws' := [(h0, .inr (9, [.int k_thrown, .int k_today, .ref a_credit, .int k_orders, .ref a_customer, .ref a_due, .ref a_group, .int k_items, .ref a_orderOf, .ref a_first, .ref a_rule, .ref a_reserved, .ref a_changes, .ref a_changeField, .ref a_changeValue, .ref a_changeFrom, .ref a_changeTold, .int k_rows, .ref a_rowItem, .ref a_rowDay, .ref a_rowKilos, .int k_base, .int k_perThousand, .int k_perWidth, .int k_quotes, .ref a_quoteItem, .ref a_quoteUntil, .ref a_quotePrice, .ref a_accepted, .int k_capacity, .ref a_taken])), (a_first, .inl (cI, 360, .inl k_first)), (a_changes, .inl (cI, 60, .inl k_changes)), (a_changeField, .inl (cI, 1200, .inl k_changeField)), (a_changeValue, .inl (cI, 1200, .inl k_changeValue)), (a_changeFrom, .inl (cI, 1200, .inl k_changeFrom))]) [0, 1, 2, 3, 4, 5] rfl
    refine zq_calli (va_runV (As := [.int p1, .int 3, .int p2]) (rest := [.int r1]) ⟨hx, hb, hml, hown, hts⟩ (zc_Mo_on l dC dI cI cZ cL h0 a_credit a_customer a_due a_group a_orderOf a_first a_rule a_reserved a_changes a_changeField a_changeValue a_changeFrom a_changeTold a_rowItem a_rowDay a_rowKilos a_quoteItem a_quoteUntil a_quotePrice a_accepted a_taken k_thrown k_today k_orders k_items k_first k_changes k_changeField k_changeValue k_changeFrom k_rows k_base k_perThousand k_perWidth k_quotes k_capacity p1 3 p2 _ h) (cwV 3 hts (zg_V zw_294 zw_295 zw_296 zw_249 zw_297) rfl rfl rfl (by decide +kernel) ⟨Nat.le_of_ble_eq_true rfl, Nat.le_of_ble_eq_true rfl⟩) ⟨zb_p, va_recv hK hPc (ci := 9) (q0 := 0) rfl rfl, zb_preP hPc hK hN⟩ rfl rfl hl.1 rfl (lv_room (Nat.le_of_ble_eq_true rfl)) d_Mo_stateOn_25 ⟨Nat.le_of_ble_eq_true rfl, Nat.le_of_ble_eq_true rfl⟩) (fun r4 h => ?_)
    refine lv_icmp_lt (tgt := 33) hx hb d_Mo_stateOn_28 (by decide) (fun c5 => ?_) (fun c5 => ?_)
    · have h := h.1 c5
      refine lv_iload_n hx hb d_Mo_stateOn_33 rfl (lv_at hl 3 rfl) ?_
      refine lv_aload_n hx hb d_Mo_stateOn_34 rfl (lv_at hl 1 rfl) ?_
      refine lv_iload_n hx hb d_Mo_stateOn_35 rfl (lv_at hl 2 rfl) ?_
      refine lv_iconst (v := 5) hx hb d_Mo_stateOn_36 (by decide) ?_
      refine lv_iload_n hx hb d_Mo_stateOn_37 rfl (lv_at hl 3 rfl) ?_
      have hPc := hP.sub (ws' := [(h0, .inr (9, [.int k_thrown, .int k_today, .ref a_credit, .int k_orders, .ref a_customer, .ref a_due, .ref a_group, .int k_items, .ref a_orderOf, .ref a_first, .ref a_rule, .ref a_reserved, .ref a_changes, .ref a_changeField, .ref a_changeValue, .ref a_changeFrom, .ref a_changeTold, .int k_rows, .ref a_rowItem, .ref a_rowDay, .ref a_rowKilos, .int k_base, .int k_perThousand, .int k_perWidth, .int k_quotes, .ref a_quoteItem, .ref a_quoteUntil, .ref a_quotePrice, .ref a_accepted, .int k_capacity, .ref a_taken])), (a_first, .inl (cI, 360, .inl k_first)), (a_changes, .inl (cI, 60, .inl k_changes)), (a_changeField, .inl (cI, 1200, .inl k_changeField)), (a_changeValue, .inl (cI, 1200, .inl k_changeValue)), (a_changeFrom, .inl (cI, 1200, .inl k_changeFrom))]) [0, 1, 2, 3, 4, 5] rfl
      refine zq_calli (va_runV (As := [.int p1, .int 5, .int p2]) (rest := [.int p2]) ⟨hx, hb, hml, hown, hts⟩ (zc_Mo_on l dC dI cI cZ cL h0 a_credit a_customer a_due a_group a_orderOf a_first a_rule a_reserved a_changes a_changeField a_changeValue a_changeFrom a_changeTold a_rowItem a_rowDay a_rowKilos a_quoteItem a_quoteUntil a_quotePrice a_accepted a_taken k_thrown k_today k_orders k_items k_first k_changes k_changeField k_changeValue k_changeFrom k_rows k_base k_perThousand k_perWidth k_quotes k_capacity p1 5 p2 _ h) (cwV 3 hts (zg_V zw_294 zw_295 zw_296 zw_249 zw_297) rfl rfl rfl (by decide +kernel) ⟨Nat.le_of_ble_eq_true rfl, Nat.le_of_ble_eq_true rfl⟩) ⟨zb_p, va_recv hK hPc (ci := 9) (q0 := 0) rfl rfl, zb_preP hPc hK hN⟩ rfl rfl hl.1 rfl (lv_room (Nat.le_of_ble_eq_true rfl)) d_Mo_stateOn_38 ⟨Nat.le_of_ble_eq_true rfl, Nat.le_of_ble_eq_true rfl⟩) (fun r6 h => ?_)
      refine lv_icmp_gt (tgt := 48) hx hb d_Mo_stateOn_41 (by decide) (fun c7 => ?_) (fun c7 => ?_)
      · have h := h.1 c7
        refine lv_iconst (v := 1) hx hb d_Mo_stateOn_48 (by decide) ?_
        exact W.iret (v := 1) hx hb hr (fun t ht hW => ⟨_, rfl, h, ht⟩) (fun q hq => nomatch hq) d_Mo_stateOn_49
      · have h := h.2 c7
        refine lv_iconst (v := 0) hx hb d_Mo_stateOn_44 (by decide) ?_
        refine lv_goto (tgt := 49) hx hb d_Mo_stateOn_45 (by decide) ?_
        exact W.iret (v := 0) hx hb hr (fun t ht hW => ⟨_, rfl, h, ht⟩) (fun q hq => nomatch hq) d_Mo_stateOn_49
    · have h := h.2 c5
      refine lv_iconst (v := 2) hx hb d_Mo_stateOn_31 (by decide) ?_
      exact W.iret (v := 2) hx hb hr (fun t ht hW => ⟨_, rfl, h, ht⟩) (fun q hq => nomatch hq) d_Mo_stateOn_32
  · have h := h.2 c3
    refine lv_iconst (v := 3) hx hb d_Mo_stateOn_18 (by decide) ?_
    exact W.iret (v := 3) hx hb hr (fun t ht hW => ⟨_, rfl, h, ht⟩) (fun q hq => nomatch hq) d_Mo_stateOn_19
set_option maxHeartbeats 4000000 in
set_option maxRecDepth 100000 in
theorem zc_Mo_isCost (l : Launch) (dC : Nat → ClassId) (dI : Nat → Nat → Nat) (cI cZ cL : ClassId) (p1 : Int32) (P : Int32 → Prop) (h : zp_Mo_isCost p1 P) : Met l y_Mo_isCost w_Mo_isCost ({ frames := 1, cells := 0, slots := 0, locals := 22 }) (va_Pc [.int p1] (fun U => va_P (dC, dI) vwCl [] U.heap ∧ va_K (dC, dI) vwCl [(cI, .int), (cZ, .boolean), (cL, .long)] U ∧ zn_ok U)) (zq_Ri P) 0 0 (fun _ => False) := by
  refine Met.ofW (cc := b_Mo_isCost) (maxL := 1) (ret := (some .boolean)) (by decide) rfl ?_
  intro p e s m args below meth c s₁ B hml hv
  obtain ⟨rfl, hP, hK, hN⟩ := hv
  have hx := B.exec
  have hb := B.bytes
  have hr := B.returns
  have hts0 := atoms_spec (ws := w_Mo_isCost) B.pre
  have hts : ∀ w ∈ zw_T, w.before ([.int p1] : List Value).toArray s = true := fun w h => hts0 w (List.mem_cons_of_mem _ h)
  have hown : s.vm.findClass R_Mo = some m.cls := findClass_of_methodNamed B.named
  have hlocks := B.notSynchronized
  have hl := lv_entry ([.int p1]) (n := 1) (Nat.le_of_ble_eq_true rfl)
  rw [lg_entry_eq]
  generalize (lg_sl ([.int p1]) ++ List.replicate (1 - (lg_sl ([.int p1])).length) Slot.unset).toArray = ls at hl ⊢
  have hl : lv_has ls 1 [(0, .int p1)] := hl
  unfold zp_Mo_isCost at h
  refine lv_iload_n hx hb d_Mo_isCost_0 rfl (lv_at hl 0 rfl) ?_
  refine lv_iconst (v := 0) hx hb d_Mo_isCost_1 (by decide) ?_
  refine lv_ldc (v := 100000) hx hb hown (hts _ zw_252) d_Mo_isCost_2 ?_
  have hPc := hP.sub (ws' := []) [] rfl
  refine zq_calli (va_runS (As := [.int p1, .int 0, .int 100000]) (rest := []) ⟨hx, hb, hml, hown, hts⟩ (zc_Mo_in l dC dI cI cZ cL p1 0 100000 _ h) (cwS 3 hts (zg_S zw_247 zw_248 zw_249 zw_250) rfl rfl rfl (by decide +kernel) ⟨Nat.le_of_ble_eq_true rfl, Nat.le_of_ble_eq_true rfl⟩) ⟨zb_p, zb_preP hPc hK hN⟩ rfl rfl hl.1 rfl (lv_room (Nat.le_of_ble_eq_true rfl)) d_Mo_isCost_4 ⟨Nat.le_of_ble_eq_true rfl, Nat.le_of_ble_eq_true rfl⟩) (fun r1 h => ?_)
  exact W.zret (v := r1) (ty := .boolean) hx hb hr h.1 (fun t ht hW => ⟨_, rfl, h.2, ht⟩) (fun q hq => nomatch hq) d_Mo_isCost_7
set_option maxHeartbeats 4000000 in
set_option maxRecDepth 100000 in
theorem zc_Mo_isQuote (l : Launch) (dC : Nat → ClassId) (dI : Nat → Nat → Nat) (cI cZ cL : ClassId) (h0 a_credit a_customer a_due a_group a_orderOf a_first a_rule a_reserved a_changes a_changeField a_changeValue a_changeFrom a_changeTold a_rowItem a_rowDay a_rowKilos a_quoteItem a_quoteUntil a_quotePrice a_accepted a_taken : Nat) (k_thrown : Int32) (k_today : Int32) (k_orders : Int32) (k_items : Int32) (k_rows : Int32) (k_base : Int32) (k_perThousand : Int32) (k_perWidth : Int32) (k_quotes : Int32) (k_capacity : Int32) (p1 : Int32) (P : Int32 → Prop) (h : zp_Mo_isQuote p1 k_quotes P) : Met l y_Mo_isQuote w_Mo_isQuote ({ frames := 1, cells := 0, slots := 0, locals := 22 }) (va_Pc [.ref h0, .int p1] (fun U => va_P (dC, dI) vwCl [(h0, .inr (9, [.int k_thrown, .int k_today, .ref a_credit, .int k_orders, .ref a_customer, .ref a_due, .ref a_group, .int k_items, .ref a_orderOf, .ref a_first, .ref a_rule, .ref a_reserved, .ref a_changes, .ref a_changeField, .ref a_changeValue, .ref a_changeFrom, .ref a_changeTold, .int k_rows, .ref a_rowItem, .ref a_rowDay, .ref a_rowKilos, .int k_base, .int k_perThousand, .int k_perWidth, .int k_quotes, .ref a_quoteItem, .ref a_quoteUntil, .ref a_quotePrice, .ref a_accepted, .int k_capacity, .ref a_taken]))] U.heap ∧ va_K (dC, dI) vwCl [(cI, .int), (cZ, .boolean), (cL, .long)] U ∧ zn_ok U)) (zq_Ri P) 0 0 (fun _ => False) := by
  refine Met.ofW (cc := b_Mo_isQuote) (maxL := 2) (ret := (some .boolean)) (by decide) rfl ?_
  intro p e s m args below meth c s₁ B hml hv
  obtain ⟨rfl, hP, hK, hN⟩ := hv
  have hx := B.exec
  have hb := B.bytes
  have hr := B.returns
  have hts0 := atoms_spec (ws := w_Mo_isQuote) B.pre
  have hts : ∀ w ∈ zw_T, w.before ([.ref h0, .int p1] : List Value).toArray s = true := fun w h => hts0 w (List.mem_cons_of_mem _ h)
  have hown : s.vm.findClass R_Mo = some m.cls := findClass_of_methodNamed B.named
  have hlocks := B.notSynchronized
  have hl := lv_entry ([.ref h0, .int p1]) (n := 2) (Nat.le_of_ble_eq_true rfl)
  rw [lg_entry_eq]
  generalize (lg_sl ([.ref h0, .int p1]) ++ List.replicate (2 - (lg_sl ([.ref h0, .int p1])).length) Slot.unset).toArray = ls at hl ⊢
  have hl : lv_has ls 2 [(0, .ref h0), (1, .int p1)] := hl
  unfold zp_Mo_isQuote at h
  refine lv_iload_n hx hb d_Mo_isQuote_0 rfl (lv_at hl 1 rfl) ?_
  refine lv_iconst (v := 0) hx hb d_Mo_isQuote_1 (by decide) ?_
  refine lv_aload_n hx hb d_Mo_isQuote_2 rfl (lv_at hl 0 rfl) ?_
  refine va_get (D := (dC, dI)) (ci := 9) (v := .int k_quotes) (C := R_Mo) (T := F_Mo) (N := 31) hx hb hts zl_Mo hown hK hP 0 rfl rfl 24 (by decide) (hts _ zw_327) (fun _ h9 => h9) rfl d_Mo_isQuote_3 ?_
  refine lv_iconst (v := 1) hx hb d_Mo_isQuote_6 (by decide) ?_
  refine lv_isub hx hb d_Mo_isQuote_7 ?_
  have hPc := hP.sub (ws' := []) [] rfl
  refine zq_calli (va_runS (As := [.int p1, .int 0, .int (k_quotes - 1)]) (rest := []) ⟨hx, hb, hml, hown, hts⟩ (zc_Mo_in l dC dI cI cZ cL p1 0 (k_quotes - 1) _ h) (cwS 3 hts (zg_S zw_247 zw_248 zw_249 zw_250) rfl rfl rfl (by decide +kernel) ⟨Nat.le_of_ble_eq_true rfl, Nat.le_of_ble_eq_true rfl⟩) ⟨zb_p, zb_preP hPc hK hN⟩ rfl rfl hl.1 rfl (lv_room (Nat.le_of_ble_eq_true rfl)) d_Mo_isQuote_8 ⟨Nat.le_of_ble_eq_true rfl, Nat.le_of_ble_eq_true rfl⟩) (fun r1 h => ?_)
  exact W.zret (v := r1) (ty := .boolean) hx hb hr h.1 (fun t ht hW => ⟨_, rfl, h.2, ht⟩) (fun q hq => nomatch hq) d_Mo_isQuote_11
set_option maxHeartbeats 4000000 in
set_option maxRecDepth 100000 in
theorem zc_Mo_customerOf (l : Launch) (dC : Nat → ClassId) (dI : Nat → Nat → Nat) (cI cZ cL : ClassId) (h0 a_credit a_customer a_due a_group a_orderOf a_first a_rule a_reserved a_changes a_changeField a_changeValue a_changeFrom a_changeTold a_rowItem a_rowDay a_rowKilos a_quoteItem a_quoteUntil a_quotePrice a_accepted a_taken : Nat) (k_thrown : Int32) (k_today : Int32) (k_orders : Int32) (k_customer : Nat → Int32) (k_items : Int32) (k_orderOf : Nat → Int32) (k_rows : Int32) (k_base : Int32) (k_perThousand : Int32) (k_perWidth : Int32) (k_quotes : Int32) (k_quoteItem : Nat → Int32) (k_capacity : Int32) (p1 : Int32) (P : Int32 → Prop) (h : zp_Mo_customerOf p1 k_customer k_orderOf k_quoteItem P) : Met l y_Mo_customerOf w_Mo_customerOf ({ frames := 0, cells := 0, slots := 0, locals := 0 }) (va_Pc [.ref h0, .int p1] (fun U => va_P (dC, dI) vwCl [(h0, .inr (9, [.int k_thrown, .int k_today, .ref a_credit, .int k_orders, .ref a_customer, .ref a_due, .ref a_group, .int k_items, .ref a_orderOf, .ref a_first, .ref a_rule, .ref a_reserved, .ref a_changes, .ref a_changeField, .ref a_changeValue, .ref a_changeFrom, .ref a_changeTold, .int k_rows, .ref a_rowItem, .ref a_rowDay, .ref a_rowKilos, .int k_base, .int k_perThousand, .int k_perWidth, .int k_quotes, .ref a_quoteItem, .ref a_quoteUntil, .ref a_quotePrice, .ref a_accepted, .int k_capacity, .ref a_taken])), (a_customer, .inl (cI, 30, .inl k_customer)), (a_orderOf, .inl (cI, 60, .inl k_orderOf)), (a_quoteItem, .inl (cI, 60, .inl k_quoteItem))] U.heap ∧ va_K (dC, dI) vwCl [(cI, .int), (cZ, .boolean), (cL, .long)] U ∧ zn_ok U)) (zq_Ri P) 0 0 (fun _ => False) := by
  refine Met.ofW (cc := b_Mo_customerOf) (maxL := 2) (ret := (some .int)) (by decide) rfl ?_
  intro p e s m args below meth c s₁ B hml hv
  obtain ⟨rfl, hP, hK, hN⟩ := hv
  have hx := B.exec
  have hb := B.bytes
  have hr := B.returns
  have hts0 := atoms_spec (ws := w_Mo_customerOf) B.pre
  have hts : ∀ w ∈ zw_T, w.before ([.ref h0, .int p1] : List Value).toArray s = true := fun w h => hts0 w (List.mem_cons_of_mem _ h)
  have hown : s.vm.findClass R_Mo = some m.cls := findClass_of_methodNamed B.named
  have hlocks := B.notSynchronized
  have hl := lv_entry ([.ref h0, .int p1]) (n := 2) (Nat.le_of_ble_eq_true rfl)
  rw [lg_entry_eq]
  generalize (lg_sl ([.ref h0, .int p1]) ++ List.replicate (2 - (lg_sl ([.ref h0, .int p1])).length) Slot.unset).toArray = ls at hl ⊢
  have hl : lv_has ls 2 [(0, .ref h0), (1, .int p1)] := hl
  unfold zp_Mo_customerOf at h
  refine lv_aload_n hx hb d_Mo_customerOf_0 rfl (lv_at hl 0 rfl) ?_
  refine va_get (D := (dC, dI)) (ci := 9) (v := .ref a_customer) (C := R_Mo) (T := F_Mo) (N := 31) hx hb hts zl_Mo hown hK hP 0 rfl rfl 4 (by decide) (hts _ zw_258) (fun _ h9 => h9) rfl d_Mo_customerOf_1 ?_
  refine lv_aload_n hx hb d_Mo_customerOf_4 rfl (lv_at hl 0 rfl) ?_
  refine va_get (D := (dC, dI)) (ci := 9) (v := .ref a_orderOf) (C := R_Mo) (T := F_Mo) (N := 31) hx hb hts zl_Mo hown hK hP 0 rfl rfl 8 (by decide) (hts _ zw_262) (fun _ h9 => h9) rfl d_Mo_customerOf_5 ?_
  refine lv_aload_n hx hb d_Mo_customerOf_8 rfl (lv_at hl 0 rfl) ?_
  refine va_get (D := (dC, dI)) (ci := 9) (v := .ref a_quoteItem) (C := R_Mo) (T := F_Mo) (N := 31) hx hb hts zl_Mo hown hK hP 0 rfl rfl 25 (by decide) (hts _ zw_326) (fun _ h9 => h9) rfl d_Mo_customerOf_9 ?_
  refine lv_iload_n hx hb d_Mo_customerOf_12 rfl (lv_at hl 1 rfl) ?_
  refine va_iald hx hb hK hP 3 0 rfl rfl h.1 d_Mo_customerOf_13 ?_
  have h := h.2
  refine va_iald hx hb hK hP 2 0 rfl rfl h.1 d_Mo_customerOf_14 ?_
  have h := h.2
  refine va_iald hx hb hK hP 1 0 rfl rfl h.1 d_Mo_customerOf_15 ?_
  have h := h.2
  exact W.iret (v := k_customer (k_orderOf (k_quoteItem p1.toNatClampNeg).toNatClampNeg).toNatClampNeg) hx hb hr (fun t ht hW => ⟨_, rfl, h, ht⟩) (fun q hq => nomatch hq) d_Mo_customerOf_16
