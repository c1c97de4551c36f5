set_option maxHeartbeats 4000000 in
set_option maxRecDepth 100000 in
theorem zc_Cal_takenOn (l : Launch) (dC : Nat → ClassId) (dI : Nat → Nat → Nat) (cI cZ cL : ClassId) (h0 a_taken a_day a_kilos : Nat) (k_taken : Nat → Int32) (k_day : Nat → Int32) (k_kilos : Nat → Int32) (k_kilosADay : Int32) (p1 : Int32) (P : Int32 → Prop) (h : zp_Cal_takenOn p1 k_taken k_day k_kilos P) : Met l y_Cal_takenOn w_Cal_takenOn ({ frames := 0, cells := 0, slots := 0, locals := 0 }) (va_Pc [.ref h0, .int p1] (fun U => va_P (dC, dI) vwCl [(h0, .inr (1, [.ref a_taken, .ref a_day, .ref a_kilos, .int k_kilosADay])), (a_taken, .inl (cZ, 60, .inl k_taken)), (a_day, .inl (cI, 60, .inl k_day)), (a_kilos, .inl (cI, 60, .inl k_kilos))] U.heap ∧ va_K (dC, dI) vwCl [(cI, .int), (cZ, .boolean), (cL, .long)] U ∧ zn_ok U)) (zq_Ri P) 0 0 (fun _ => False) := by
  refine Met.ofW (cc := b_Cal_takenOn) (maxL := 4) (ret := (some .int)) (by decide) rfl ?_
  intro p e s m args below meth c s₁ B hml hv
  obtain ⟨rfl, hP, hK, hN⟩ := hv
  have hx := B.exec
  have hb := B.bytes
  have hr := B.returns
  have hts0 := atoms_spec (ws := w_Cal_takenOn) B.pre
  have hts : ∀ w ∈ zw_T, w.before ([.ref h0, .int p1] : List Value).toArray s = true := fun w h => hts0 w (List.mem_cons_of_mem _ h)
  have hown : s.vm.findClass R_Cal = some m.cls := findClass_of_methodNamed B.named
  have hlocks := B.notSynchronized
  have hl := lv_entry ([.ref h0, .int p1]) (n := 4) (Nat.le_of_ble_eq_true rfl)
  rw [lg_entry_eq]
  generalize (lg_sl ([.ref h0, .int p1]) ++ List.replicate (4 - (lg_sl ([.ref h0, .int p1])).length) Slot.unset).toArray = ls at hl ⊢
  have hl : lv_has ls 4 [(0, .ref h0), (1, .int p1)] := hl
  have B38 : ∀ (v2 : Int32) (v3 : Int32) (K4 : Int32 → Int32 → Prop) (hK4 : ∀ (v2 : Int32) (v3 : Int32), ∀ (ls : Array Slot), K4 v2 v3 → lv_has ls 4 [(0, .ref h0), (1, .int p1), (2, .int v2), (3, .int v3)] → W p l e (headSpec w_Cal_takenOn ({ frames := 0, cells := 0, slots := 0, locals := 0 })).room s m ([.ref h0, .int p1] : List Value).toArray below meth c s.heap [] 0 0 (MQ below (zq_Ri P) ([.ref h0, .int p1] : List Value).toArray s 0 0 (fun _ => False)) (F0 m 4 ls [])), ∀ (ls : Array Slot), zp_Cal_takenOn_38 K4 v2 v3 → lv_has ls 4 [(0, .ref h0), (1, .int p1), (2, .int v2), (3, .int v3)] → W p l e (headSpec w_Cal_takenOn ({ frames := 0, cells := 0, slots := 0, locals := 0 })).room s m ([.ref h0, .int p1] : List Value).toArray below meth c s.heap [] 0 0 (MQ below (zq_Ri P) ([.ref h0, .int p1] : List Value).toArray s 0 0 (fun _ => False)) (F0 m 38 ls []) := by
    intro v2 v3 K4 hK4 ls h hl
    unfold zp_Cal_takenOn_38 at h
    refine lv_iinc (v := v3 + 1) (lv' := [(3, .int (v3 + 1)), (0, .ref h0), (1, .int p1), (2, .int v2)]) hx hb d_Cal_takenOn_38 hl (k := 3) rfl rfl (by decide) rfl (fun ls hl => ?_)
    refine lv_goto (tgt := 4) hx hb d_Cal_takenOn_41 (by decide) ?_
    exact hK4 v2 (v3 + 1) ls h (lv_sub hl [1, 2, 3, 0] rfl)
  have B4 : ∀ (n : Nat) (v2 : Int32) (v3 : Int32), ∀ (ls : Array Slot), zp_Cal_takenOn_4 p1 k_taken k_day k_kilos P n v2 v3 → lv_has ls 4 [(0, .ref h0), (1, .int p1), (2, .int v2), (3, .int v3)] → W p l e (headSpec w_Cal_takenOn ({ frames := 0, cells := 0, slots := 0, locals := 0 })).room s m ([.ref h0, .int p1] : List Value).toArray below meth c s.heap [] 0 0 (MQ below (zq_Ri P) ([.ref h0, .int p1] : List Value).toArray s 0 0 (fun _ => False)) (F0 m 4 ls []) := by
    intro n
    induction n with
    | zero =>
      intro v2 v3 ls h hl
      exact h.elim
    | succ n ih =>
      intro v2 v3 ls h hl
      unfold zp_Cal_takenOn_4 at h
      refine lv_iload_n hx hb d_Cal_takenOn_4 rfl (lv_at hl 3 rfl) ?_
      refine lv_bipush (v := 60) hx hb d_Cal_takenOn_5 (by decide) ?_
      refine lv_icmp_ge (tgt := 44) hx hb d_Cal_takenOn_7 (by decide) (fun c1 => ?_) (fun c1 => ?_)
      · have h := h.1 c1
        refine lv_iload_n hx hb d_Cal_takenOn_44 rfl (lv_at hl 2 rfl) ?_
        exact W.iret (v := v2) hx hb hr (fun t ht hW => ⟨_, rfl, h, ht⟩) (fun q hq => nomatch hq) d_Cal_takenOn_45
      · have h := h.2 c1
        refine lv_aload_n hx hb d_Cal_takenOn_10 rfl (lv_at hl 0 rfl) ?_
        refine va_get (D := (dC, dI)) (ci := 1) (v := .ref a_taken) (C := R_Cal) (T := F_Cal) (N := 4) hx hb hts zl_Cal hown hK hP 0 rfl rfl 0 (by decide) (hts _ zw_0) (fun _ h9 => h9) rfl d_Cal_takenOn_11 ?_
        refine lv_iload_n hx hb d_Cal_takenOn_14 rfl (lv_at hl 3 rfl) ?_
        refine va_zald hx hb hK hP 1 1 rfl rfl h.1 d_Cal_takenOn_15 ?_
        have h := h.2
        refine lv_if_eq (tgt := 38) hx hb d_Cal_takenOn_16 (by decide) (fun c2 => ?_) (fun c2 => ?_)
        · have h := h.1 c2
          exact B38 v2 v3 _ ih ls h (lv_sub hl [0, 1, 2, 3] rfl)
        · have h := h.2 c2
          refine lv_aload_n hx hb d_Cal_takenOn_19 rfl (lv_at hl 0 rfl) ?_
          refine va_get (D := (dC, dI)) (ci := 1) (v := .ref a_day) (C := R_Cal) (T := F_Cal) (N := 4) hx hb hts zl_Cal hown hK hP 0 rfl rfl 1 (by decide) (hts _ zw_1) (fun _ h9 => h9) rfl d_Cal_takenOn_20 ?_
          refine lv_iload_n hx hb d_Cal_takenOn_23 rfl (lv_at hl 3 rfl) ?_
          refine va_iald hx hb hK hP 2 0 rfl rfl h.1 d_Cal_takenOn_24 ?_
          have h := h.2
          refine lv_iload_n hx hb d_Cal_takenOn_25 rfl (lv_at hl 1 rfl) ?_
          refine lv_icmp_ne (tgt := 38) hx hb d_Cal_takenOn_26 (by decide) (fun c3 => ?_) (fun c3 => ?_)
          · have h := h.1 c3
            exact B38 v2 v3 _ ih ls h (lv_sub hl [0, 1, 2, 3] rfl)
          · have h := h.2 c3
            refine lv_iload_n hx hb d_Cal_takenOn_29 rfl (lv_at hl 2 rfl) ?_
            refine lv_aload_n hx hb d_Cal_takenOn_30 rfl (lv_at hl 0 rfl) ?_
            refine va_get (D := (dC, dI)) (ci := 1) (v := .ref a_kilos) (C := R_Cal) (T := F_Cal) (N := 4) hx hb hts zl_Cal hown hK hP 0 rfl rfl 2 (by decide) (hts _ zw_2) (fun _ h9 => h9) rfl d_Cal_takenOn_31 ?_
            refine lv_iload_n hx hb d_Cal_takenOn_34 rfl (lv_at hl 3 rfl) ?_
            refine va_iald hx hb hK hP 3 0 rfl rfl h.1 d_Cal_takenOn_35 ?_
            have h := h.2
            refine lv_iadd hx hb d_Cal_takenOn_36 ?_
            refine lv_topi (fun y4 ey4 => ?_)
            have h := h y4 ey4
            refine lv_istore_n (lv' := [(2, .int y4), (0, .ref h0), (1, .int p1), (3, .int v3)]) hx hb d_Cal_takenOn_37 rfl hl (by decide) rfl (fun ls hl => ?_)
            exact B38 y4 v3 _ ih ls h (lv_sub hl [1, 2, 0, 3] rfl)
  unfold zp_Cal_takenOn at h
  refine lv_iconst (v := 0) hx hb d_Cal_takenOn_0 (by decide) ?_
  refine lv_istore_n (lv' := [(2, .int 0), (0, .ref h0), (1, .int p1)]) hx hb d_Cal_takenOn_1 rfl hl (by decide) rfl (fun ls hl => ?_)
  refine lv_iconst (v := 0) hx hb d_Cal_takenOn_2 (by decide) ?_
  refine lv_istore_n (lv' := [(3, .int 0), (2, .int 0), (0, .ref h0), (1, .int p1)]) hx hb d_Cal_takenOn_3 rfl hl (by decide) rfl (fun ls hl => ?_)
  obtain ⟨n, h⟩ := h
  exact B4 n 0 0 ls h (lv_sub hl [2, 3, 1, 0] rfl)
set_option maxHeartbeats 4000000 in
set_option maxRecDepth 100000 in
theorem zc_Cal_fitsInto (l : Launch) (dC : Nat → ClassId) (dI : Nat → Nat → Nat) (cI cZ cL : ClassId) (h0 a_taken a_day a_kilos : Nat) (k_taken : Nat → Int32) (k_day : Nat → Int32) (k_kilos : Nat → Int32) (k_kilosADay : Int32) (p1 : Int32) (P : Int32 → Prop) (h : zp_Cal_fitsInto p1 k_taken k_day k_kilos P) : Met l y_Cal_fitsInto w_Cal_fitsInto ({ frames := 1, cells := 0, slots := 0, locals := 23 }) (va_Pc [.ref h0, .int p1] (fun U => va_P (dC, dI) vwCl [(h0, .inr (1, [.ref a_taken, .ref a_day, .ref a_kilos, .int k_kilosADay])), (a_taken, .inl (cZ, 60, .inl k_taken)), (a_day, .inl (cI, 60, .inl k_day)), (a_kilos, .inl (cI, 60, .inl k_kilos))] U.heap ∧ va_K (dC, dI) vwCl [(cI, .int), (cZ, .boolean), (cL, .long)] U ∧ zn_ok U)) (zq_Ri P) 0 0 (fun _ => False) := by
  refine Met.ofW (cc := b_Cal_fitsInto) (maxL := 3) (ret := (some .boolean)) (by decide) rfl ?_
  intro p e s m args below meth c s₁ B hml hv
  obtain ⟨rfl, hP, hK, hN⟩ := hv
  have hx := B.exec
  have hb := B.bytes
  have hr := B.returns
  have hts0 := atoms_spec (ws := w_Cal_fitsInto) B.pre
  have hts : ∀ w ∈ zw_T, w.before ([.ref h0, .int p1] : List Value).toArray s = true := fun w h => hts0 w (List.mem_cons_of_mem _ h)
  have hown : s.vm.findClass R_Cal = some m.cls := findClass_of_methodNamed B.named
  have hlocks := B.notSynchronized
  have hl := lv_entry ([.ref h0, .int p1]) (n := 3) (Nat.le_of_ble_eq_true rfl)
  rw [lg_entry_eq]
  generalize (lg_sl ([.ref h0, .int p1]) ++ List.replicate (3 - (lg_sl ([.ref h0, .int p1])).length) Slot.unset).toArray = ls at hl ⊢
  have hl : lv_has ls 3 [(0, .ref h0), (1, .int p1)] := hl
  have B33 : ∀ (v2 : Int32) (K2 : Int32 → Prop) (hK2 : ∀ (v2 : Int32), ∀ (ls : Array Slot), K2 v2 → lv_has ls 3 [(0, .ref h0), (1, .int p1), (2, .int v2)] → W p l e (headSpec w_Cal_fitsInto ({ frames := 1, cells := 0, slots := 0, locals := 23 })).room s m ([.ref h0, .int p1] : List Value).toArray below meth c s.heap [] 0 0 (MQ below (zq_Ri P) ([.ref h0, .int p1] : List Value).toArray s 0 0 (fun _ => False)) (F0 m 2 ls [])), ∀ (ls : Array Slot), zp_Cal_fitsInto_33 K2 v2 → lv_has ls 3 [(0, .ref h0), (1, .int p1), (2, .int v2)] → W p l e (headSpec w_Cal_fitsInto ({ frames := 1, cells := 0, slots := 0, locals := 23 })).room s m ([.ref h0, .int p1] : List Value).toArray below meth c s.heap [] 0 0 (MQ below (zq_Ri P) ([.ref h0, .int p1] : List Value).toArray s 0 0 (fun _ => False)) (F0 m 33 ls []) := by
    intro v2 K2 hK2 ls h hl
    unfold zp_Cal_fitsInto_33 at h
    refine lv_iinc (v := v2 + 1) (lv' := [(2, .int (v2 + 1)), (0, .ref h0), (1, .int p1)]) hx hb d_Cal_fitsInto_33 hl (k := 2) rfl rfl (by decide) rfl (fun ls hl => ?_)
    refine lv_goto (tgt := 2) hx hb d_Cal_fitsInto_36 (by decide) ?_
    exact hK2 (v2 + 1) ls h (lv_sub hl [1, 2, 0] rfl)
  have B2 : ∀ (n : Nat) (v2 : Int32), ∀ (ls : Array Slot), zp_Cal_fitsInto_2 p1 k_taken k_day k_kilos P n v2 → lv_has ls 3 [(0, .ref h0), (1, .int p1), (2, .int v2)] → W p l e (headSpec w_Cal_fitsInto ({ frames := 1, cells := 0, slots := 0, locals := 23 })).room s m ([.ref h0, .int p1] : List Value).toArray below meth c s.heap [] 0 0 (MQ below (zq_Ri P) ([.ref h0, .int p1] : List Value).toArray s 0 0 (fun _ => False)) (F0 m 2 ls []) := by
    intro n
    induction n with
    | zero =>
      intro v2 ls h hl
      exact h.elim
    | succ n ih =>
      intro v2 ls h hl
      unfold zp_Cal_fitsInto_2 at h
      refine lv_iload_n hx hb d_Cal_fitsInto_2 rfl (lv_at hl 2 rfl) ?_
      refine lv_bipush (v := 60) hx hb d_Cal_fitsInto_3 (by decide) ?_
      refine lv_icmp_ge (tgt := 39) hx hb d_Cal_fitsInto_5 (by decide) (fun c1 => ?_) (fun c1 => ?_)
      · have h := h.1 c1
        refine lv_iconst (v := 1) hx hb d_Cal_fitsInto_39 (by decide) ?_
        exact W.zret (v := 1) (ty := .boolean) hx hb hr h.1 (fun t ht hW => ⟨_, rfl, h.2, ht⟩) (fun q hq => nomatch hq) d_Cal_fitsInto_40
      · have h := h.2 c1
        refine lv_aload_n hx hb d_Cal_fitsInto_8 rfl (lv_at hl 0 rfl) ?_
        refine va_get (D := (dC, dI)) (ci := 1) (v := .ref a_taken) (C := R_Cal) (T := F_Cal) (N := 4) hx hb hts zl_Cal hown hK hP 0 rfl rfl 0 (by decide) (hts _ zw_0) (fun _ h9 => h9) rfl d_Cal_fitsInto_9 ?_
        refine lv_iload_n hx hb d_Cal_fitsInto_12 rfl (lv_at hl 2 rfl) ?_
        refine va_zald hx hb hK hP 1 1 rfl rfl h.1 d_Cal_fitsInto_13 ?_
        have h := h.2
        refine lv_if_eq (tgt := 33) hx hb d_Cal_fitsInto_14 (by decide) (fun c2 => ?_) (fun c2 => ?_)
        · have h := h.1 c2
          exact B33 v2 _ ih ls h (lv_sub hl [0, 1, 2] rfl)
        · have h := h.2 c2
          refine lv_aload_n hx hb d_Cal_fitsInto_17 rfl (lv_at hl 0 rfl) ?_
          refine lv_aload_n hx hb d_Cal_fitsInto_18 rfl (lv_at hl 0 rfl) ?_
          refine va_get (D := (dC, dI)) (ci := 1) (v := .ref a_day) (C := R_Cal) (T := F_Cal) (N := 4) hx hb hts zl_Cal hown hK hP 0 rfl rfl 1 (by decide) (hts _ zw_1) (fun _ h9 => h9) rfl d_Cal_fitsInto_19 ?_
          refine lv_iload_n hx hb d_Cal_fitsInto_22 rfl (lv_at hl 2 rfl) ?_
          refine va_iald hx hb hK hP 2 0 rfl rfl h.1 d_Cal_fitsInto_23 ?_
          have h := h.2
          have hPc := hP.sub (ws' := [(h0, .inr (1, [.ref a_taken, .ref a_day, .ref a_kilos, .int k_kilosADay])), (a_taken, .inl (cZ, 60, .inl k_taken)), (a_day, .inl (cI, 60, .inl k_day)), (a_kilos, .inl (cI, 60, .inl k_kilos))]) [0, 1, 2, 3] rfl
          refine zq_calli (va_runV (As := [.int (k_day v2.toNatClampNeg)]) (rest := []) ⟨hx, hb, hml, hown, hts⟩ (zc_Cal_takenOn l dC dI cI cZ cL h0 a_taken a_day a_kilos k_taken k_day k_kilos k_kilosADay (k_day v2.toNatClampNeg) _ h) (cwV 1 hts (zg_V zw_3 zw_4 zw_5 zw_6 zw_7) rfl rfl rfl (by decide +kernel) ⟨Nat.le_of_ble_eq_true rfl, Nat.le_of_ble_eq_true rfl⟩) ⟨zb_p, va_recv hK hPc (ci := 1) (q0 := 0) rfl rfl, zb_preP hPc hK hN⟩ rfl rfl hl.1 rfl (lv_room (Nat.le_of_ble_eq_true rfl)) d_Cal_fitsInto_24 ⟨Nat.le_of_ble_eq_true rfl, Nat.le_of_ble_eq_true rfl⟩) (fun r3 h => ?_)
          refine lv_iload_n hx hb d_Cal_fitsInto_27 rfl (lv_at hl 1 rfl) ?_
          refine lv_icmp_le (tgt := 33) hx hb d_Cal_fitsInto_28 (by decide) (fun c4 => ?_) (fun c4 => ?_)
          · have h := h.1 c4
            exact B33 v2 _ ih ls h (lv_sub hl [0, 1, 2] rfl)
          · have h := h.2 c4
            refine lv_iconst (v := 0) hx hb d_Cal_fitsInto_31 (by decide) ?_
            exact W.zret (v := 0) (ty := .boolean) hx hb hr h.1 (fun t ht hW => ⟨_, rfl, h.2, ht⟩) (fun q hq => nomatch hq) d_Cal_fitsInto_32
  unfold zp_Cal_fitsInto at h
  refine lv_iconst (v := 0) hx hb d_Cal_fitsInto_0 (by decide) ?_
  refine lv_istore_n (lv' := [(2, .int 0), (0, .ref h0), (1, .int p1)]) hx hb d_Cal_fitsInto_1 rfl hl (by decide) rfl (fun ls hl => ?_)
  obtain ⟨n, h⟩ := h
  exact B2 n 0 ls h (lv_sub hl [1, 2, 0] rfl)
set_option maxHeartbeats 4000000 in
set_option maxRecDepth 100000 in
theorem zc_Cal_latestDayFor (l : Launch) (dC : Nat → ClassId) (dI : Nat → Nat → Nat) (cI cZ cL : ClassId) (h0 a_taken a_day a_kilos : Nat) (k_taken : Nat → Int32) (k_day : Nat → Int32) (k_kilos : Nat → Int32) (k_kilosADay : Int32) (p1 : Int32) (p2 : Int32) (p3 : Int32) (P : Int32 → Prop) (h : zp_Cal_latestDayFor p1 p2 p3 k_taken k_day k_kilos k_kilosADay P) : Met l y_Cal_latestDayFor w_Cal_latestDayFor ({ frames := 1, cells := 0, slots := 0, locals := 23 }) (va_Pc [.ref h0, .int p1, .int p2, .int p3] (fun U => va_P (dC, dI) vwCl [(h0, .inr (1, [.ref a_taken, .ref a_day, .ref a_kilos, .int k_kilosADay])), (a_taken, .inl (cZ, 60, .inl k_taken)), (a_day, .inl (cI, 60, .inl k_day)), (a_kilos, .inl (cI, 60, .inl k_kilos))] U.heap ∧ va_K (dC, dI) vwCl [(cI, .int), (cZ, .boolean), (cL, .long)] U ∧ zn_ok U)) (zq_Ri P) 0 0 (fun _ => False) := by
  refine Met.ofW (cc := b_Cal_latestDayFor) (maxL := 5) (ret := (some .int)) (by decide) rfl ?_
  intro p e s m args below meth c s₁ B hml hv
  obtain ⟨rfl, hP, hK, hN⟩ := hv
  have hx := B.exec
  have hb := B.bytes
  have hr := B.returns
  have hts0 := atoms_spec (ws := w_Cal_latestDayFor) B.pre
  have hts : ∀ w ∈ zw_T, w.before ([.ref h0, .int p1, .int p2, .int p3] : List Value).toArray s = true := fun w h => hts0 w (List.mem_cons_of_mem _ h)
  have hown : s.vm.findClass R_Cal = some m.cls := findClass_of_methodNamed B.named
  have hlocks := B.notSynchronized
  have hl := lv_entry ([.ref h0, .int p1, .int p2, .int p3]) (n := 5) (Nat.le_of_ble_eq_true rfl)
  rw [lg_entry_eq]
  generalize (lg_sl ([.ref h0, .int p1, .int p2, .int p3]) ++ List.replicate (5 - (lg_sl ([.ref h0, .int p1, .int p2, .int p3])).length) Slot.unset).toArray = ls at hl ⊢
  have hl : lv_has ls 5 [(0, .ref h0), (1, .int p1), (2, .int p2), (3, .int p3)] := hl
  have B13 : ∀ (n : Nat) (v4 : Int32), ∀ (ls : Array Slot), zp_Cal_latestDayFor_13 p1 p2 k_taken k_day k_kilos k_kilosADay P n v4 → lv_has ls 5 [(0, .ref h0), (1, .int p1), (2, .int p2), (4, .int v4)] → W p l e (headSpec w_Cal_latestDayFor ({ frames := 1, cells := 0, slots := 0, locals := 23 })).room s m ([.ref h0, .int p1, .int p2, .int p3] : List Value).toArray below meth c s.heap [] 0 0 (MQ below (zq_Ri P) ([.ref h0, .int p1, .int p2, .int p3] : List Value).toArray s 0 0 (fun _ => False)) (F0 m 13 ls []) := by
    intro n
    induction n with
    | zero =>
      intro v4 ls h hl
      exact h.elim
    | succ n ih =>
      intro v4 ls h hl
      unfold zp_Cal_latestDayFor_13 at h
      refine lv_iload hx hb d_Cal_latestDayFor_13 (lv_at hl 3 rfl) ?_
      refine lv_iload_n hx hb d_Cal_latestDayFor_15 rfl (lv_at hl 2 rfl) ?_
      refine lv_icmp_lt (tgt := 43) hx hb d_Cal_latestDayFor_16 (by decide) (fun c1 => ?_) (fun c1 => ?_)
      · have h := h.1 c1
        refine lv_iconst (v := (-1)) hx hb d_Cal_latestDayFor_43 (by decide) ?_
        exact W.iret (v := (-1)) hx hb hr (fun t ht hW => ⟨_, rfl, h, ht⟩) (fun q hq => nomatch hq) d_Cal_latestDayFor_44
      · have h := h.2 c1
        refine lv_aload_n hx hb d_Cal_latestDayFor_19 rfl (lv_at hl 0 rfl) ?_
        refine lv_iload hx hb d_Cal_latestDayFor_20 (lv_at hl 3 rfl) ?_
        have hPc := hP.sub (ws' := [(h0, .inr (1, [.ref a_taken, .ref a_day, .ref a_kilos, .int k_kilosADay])), (a_taken, .inl (cZ, 60, .inl k_taken)), (a_day, .inl (cI, 60, .inl k_day)), (a_kilos, .inl (cI, 60, .inl k_kilos))]) [0, 1, 2, 3] rfl
        refine zq_calli (va_runV (As := [.int v4]) (rest := []) ⟨hx, hb, hml, hown, hts⟩ (zc_Cal_takenOn l dC dI cI cZ cL h0 a_taken a_day a_kilos k_taken k_day k_kilos k_kilosADay v4 _ h) (cwV 1 hts (zg_V zw_3 zw_4 zw_5 zw_6 zw_7) rfl rfl rfl (by decide +kernel) ⟨Nat.le_of_ble_eq_true rfl, Nat.le_of_ble_eq_true rfl⟩) ⟨zb_p, va_recv hK hPc (ci := 1) (q0 := 0) rfl rfl, zb_preP hPc hK hN⟩ rfl rfl hl.1 rfl (lv_room (Nat.le_of_ble_eq_true rfl)) d_Cal_latestDayFor_22 ⟨Nat.le_of_ble_eq_true rfl, Nat.le_of_ble_eq_true rfl⟩) (fun r2 h => ?_)
        refine lv_aload_n hx hb d_Cal_latestDayFor_25 rfl (lv_at hl 0 rfl) ?_
        refine va_get (D := (dC, dI)) (ci := 1) (v := .int k_kilosADay) (C := R_Cal) (T := F_Cal) (N := 4) hx hb hts zl_Cal hown hK hP 0 rfl rfl 3 (by decide) (hts _ zw_8) (fun _ h9 => h9) rfl d_Cal_latestDayFor_26 ?_
        refine lv_iload_n hx hb d_Cal_latestDayFor_29 rfl (lv_at hl 1 rfl) ?_
        refine lv_isub hx hb d_Cal_latestDayFor_30 ?_
        refine lv_icmp_gt (tgt := 37) hx hb d_Cal_latestDayFor_31 (by decide) (fun c3 => ?_) (fun c3 => ?_)
        · have h := h.1 c3
          refine lv_iinc (v := v4 + (-1)) (lv' := [(4, .int (v4 + (-1))), (0, .ref h0), (1, .int p1), (2, .int p2)]) hx hb d_Cal_latestDayFor_37 hl (k := 3) rfl rfl (by decide) rfl (fun ls hl => ?_)
          refine lv_goto (tgt := 13) hx hb d_Cal_latestDayFor_40 (by decide) ?_
          exact ih (v4 + (-1)) ls h (lv_sub hl [1, 2, 3, 0] rfl)
        · have h := h.2 c3
          refine lv_iload hx hb d_Cal_latestDayFor_34 (lv_at hl 3 rfl) ?_
          exact W.iret (v := v4) hx hb hr (fun t ht hW => ⟨_, rfl, h, ht⟩) (fun q hq => nomatch hq) d_Cal_latestDayFor_36
  unfold zp_Cal_latestDayFor at h
  refine lv_iload_n hx hb d_Cal_latestDayFor_0 rfl (lv_at hl 1 rfl) ?_
  refine lv_aload_n hx hb d_Cal_latestDayFor_1 rfl (lv_at hl 0 rfl) ?_
  refine va_get (D := (dC, dI)) (ci := 1) (v := .int k_kilosADay) (C := R_Cal) (T := F_Cal) (N := 4) hx hb hts zl_Cal hown hK hP 0 rfl rfl 3 (by decide) (hts _ zw_8) (fun _ h9 => h9) rfl d_Cal_latestDayFor_2 ?_
  refine lv_icmp_le (tgt := 10) hx hb d_Cal_latestDayFor_5 (by decide) (fun c4 => ?_) (fun c4 => ?_)
  · have h := h.1 c4
    refine lv_iload_n hx hb d_Cal_latestDayFor_10 rfl (lv_at hl 3 rfl) ?_
    refine lv_istore (lv' := [(4, .int p3), (0, .ref h0), (1, .int p1), (2, .int p2), (3, .int p3)]) hx hb d_Cal_latestDayFor_11 hl (by decide) rfl (fun ls hl => ?_)
    obtain ⟨n, h⟩ := h
    exact B13 n p3 ls h (lv_sub hl [1, 2, 3, 0] rfl)
  · have h := h.2 c4
    refine lv_iconst (v := (-1)) hx hb d_Cal_latestDayFor_8 (by decide) ?_
    exact W.iret (v := (-1)) hx hb hr (fun t ht hW => ⟨_, rfl, h, ht⟩) (fun q hq => nomatch hq) d_Cal_latestDayFor_9
set_option maxHeartbeats 4000000 in
set_option maxRecDepth 100000 in
theorem zc_Chg_hasRoom (l : Launch) (dC : Nat → ClassId) (dI : Nat → Nat → Nat) (cI cZ cL : ClassId) (h0 a_field a_value a_from a_told a_count : Nat) (k_count : Nat → Int32) (p1 : Int32) (p2 : Int32) (P : Int32 → Prop) (h : zp_Chg_hasRoom p1 p2 k_count P) : Met l y_Chg_hasRoom w_Chg_hasRoom ({ frames := 0, cells := 0, slots := 0, locals := 0 }) (va_Pc [.ref h0, .int p1, .int p2] (fun U => va_P (dC, dI) vwCl [(h0, .inr (2, [.ref a_field, .ref a_value, .ref a_from, .ref a_told, .ref a_count])), (a_count, .inl (cI, 60, .inl k_count))] U.heap ∧ va_K (dC, dI) vwCl [(cI, .int), (cZ, .boolean), (cL, .long)] U ∧ zn_ok U)) (zq_Ri P) 0 0 (fun _ => False) := by
  refine Met.ofW (cc := b_Chg_hasRoom) (maxL := 3) (ret := (some .boolean)) (by decide) rfl ?_
  intro p e s m args below meth c s₁ B hml hv
  obtain ⟨rfl, hP, hK, hN⟩ := hv
  have hx := B.exec
  have hb := B.bytes
  have hr := B.returns
  have hts0 := atoms_spec (ws := w_Chg_hasRoom) B.pre
  have hts : ∀ w ∈ zw_T, w.before ([.ref h0, .int p1, .int p2] : List Value).toArray s = true := fun w h => hts0 w (List.mem_cons_of_mem _ h)
  have hown : s.vm.findClass R_Chg = some m.cls := findClass_of_methodNamed B.named
  have hlocks := B.notSynchronized
  have hl := lv_entry ([.ref h0, .int p1, .int p2]) (n := 3) (Nat.le_of_ble_eq_true rfl)
  rw [lg_entry_eq]
  generalize (lg_sl ([.ref h0, .int p1, .int p2]) ++ List.replicate (3 - (lg_sl ([.ref h0, .int p1, .int p2])).length) Slot.unset).toArray = ls at hl ⊢
  have hl : lv_has ls 3 [(0, .ref h0), (1, .int p1), (2, .int p2)] := hl
  unfold zp_Chg_hasRoom at h
  refine lv_aload_n hx hb d_Chg_hasRoom_0 rfl (lv_at hl 0 rfl) ?_
  refine va_get (D := (dC, dI)) (ci := 2) (v := .ref a_count) (C := R_Chg) (T := F_Chg) (N := 5) hx hb hts zl_Chg hown hK hP 0 rfl rfl 4 (by decide) (hts _ zw_9) (fun _ h9 => h9) rfl d_Chg_hasRoom_1 ?_
  refine lv_iload_n hx hb d_Chg_hasRoom_4 rfl (lv_at hl 1 rfl) ?_
  refine va_iald hx hb hK hP 1 0 rfl rfl h.1 d_Chg_hasRoom_5 ?_
  have h := h.2
  refine lv_bipush (v := 20) hx hb d_Chg_hasRoom_6 (by decide) ?_
  refine lv_iload_n hx hb d_Chg_hasRoom_8 rfl (lv_at hl 2 rfl) ?_
  refine lv_isub hx hb d_Chg_hasRoom_9 ?_
  refine lv_icmp_gt (tgt := 17) hx hb d_Chg_hasRoom_10 (by decide) (fun c1 => ?_) (fun c1 => ?_)
  · have h := h.1 c1
    refine lv_iconst (v := 0) hx hb d_Chg_hasRoom_17 (by decide) ?_
    exact W.zret (v := 0) (ty := .boolean) hx hb hr h.1 (fun t ht hW => ⟨_, rfl, h.2, ht⟩) (fun q hq => nomatch hq) d_Chg_hasRoom_18
  · have h := h.2 c1
    refine lv_iconst (v := 1) hx hb d_Chg_hasRoom_13 (by decide) ?_
    refine lv_goto (tgt := 18) hx hb d_Chg_hasRoom_14 (by decide) ?_
    exact W.zret (v := 1) (ty := .boolean) hx hb hr h.1 (fun t ht hW => ⟨_, rfl, h.2, ht⟩) (fun q hq => nomatch hq) d_Chg_hasRoom_18
set_option maxHeartbeats 4000000 in
set_option maxRecDepth 100000 in
theorem zc_Or_isWithin (l : Launch) (dC : Nat → ClassId) (dI : Nat → Nat → Nat) (cI cZ cL : ClassId) (p1 : Int32) (p2 : Int32) (p3 : Int32) (P : Int32 → Prop) (h : zp_Or_isWithin p1 p2 p3 P) : Met l y_Or_isWithin w_Or_isWithin ({ frames := 0, cells := 0, slots := 0, locals := 0 }) (va_Pc [.int p1, .int p2, .int p3] (fun U => va_P (dC, dI) vwCl [] U.heap ∧ va_K (dC, dI) vwCl [(cI, .int), (cZ, .boolean), (cL, .long)] U ∧ zn_ok U)) (zq_Ri P) 0 0 (fun _ => False) := by
  refine Met.ofW (cc := b_Or_isWithin) (maxL := 3) (ret := (some .boolean)) (by decide) rfl ?_
  intro p e s m args below meth c s₁ B hml hv
  obtain ⟨rfl, hP, hK, hN⟩ := hv
  have hx := B.exec
  have hb := B.bytes
  have hr := B.returns
  have hts0 := atoms_spec (ws := w_Or_isWithin) B.pre
  have hts : ∀ w ∈ zw_T, w.before ([.int p1, .int p2, .int p3] : List Value).toArray s = true := fun w h => hts0 w (List.mem_cons_of_mem _ h)
  have hown : s.vm.findClass R_Or = some m.cls := findClass_of_methodNamed B.named
  have hlocks := B.notSynchronized
  have hl := lv_entry ([.int p1, .int p2, .int p3]) (n := 3) (Nat.le_of_ble_eq_true rfl)
  rw [lg_entry_eq]
  generalize (lg_sl ([.int p1, .int p2, .int p3]) ++ List.replicate (3 - (lg_sl ([.int p1, .int p2, .int p3])).length) Slot.unset).toArray = ls at hl ⊢
  have hl : lv_has ls 3 [(0, .int p1), (1, .int p2), (2, .int p3)] := hl
  unfold zp_Or_isWithin at h
  refine lv_iload_n hx hb d_Or_isWithin_0 rfl (lv_at hl 0 rfl) ?_
  refine lv_iload_n hx hb d_Or_isWithin_1 rfl (lv_at hl 1 rfl) ?_
  refine lv_icmp_lt (tgt := 14) hx hb d_Or_isWithin_2 (by decide) (fun c1 => ?_) (fun c1 => ?_)
  · have h := h.1 c1
    refine lv_iconst (v := 0) hx hb d_Or_isWithin_14 (by decide) ?_
    exact W.zret (v := 0) (ty := .boolean) hx hb hr h.1 (fun t ht hW => ⟨_, rfl, h.2, ht⟩) (fun q hq => nomatch hq) d_Or_isWithin_15
  · have h := h.2 c1
    refine lv_iload_n hx hb d_Or_isWithin_5 rfl (lv_at hl 0 rfl) ?_
    refine lv_iload_n hx hb d_Or_isWithin_6 rfl (lv_at hl 2 rfl) ?_
    refine lv_icmp_gt (tgt := 14) hx hb d_Or_isWithin_7 (by decide) (fun c2 => ?_) (fun c2 => ?_)
    · have h := h.1 c2
      refine lv_iconst (v := 0) hx hb d_Or_isWithin_14 (by decide) ?_
      exact W.zret (v := 0) (ty := .boolean) hx hb hr h.1 (fun t ht hW => ⟨_, rfl, h.2, ht⟩) (fun q hq => nomatch hq) d_Or_isWithin_15
    · have h := h.2 c2
      refine lv_iconst (v := 1) hx hb d_Or_isWithin_10 (by decide) ?_
      refine lv_goto (tgt := 15) hx hb d_Or_isWithin_11 (by decide) ?_
      exact W.zret (v := 1) (ty := .boolean) hx hb hr h.1 (fun t ht hW => ⟨_, rfl, h.2, ht⟩) (fun q hq => nomatch hq) d_Or_isWithin_15
set_option maxHeartbeats 4000000 in
set_option maxRecDepth 100000 in
theorem zc_Chg_has (l : Launch) (dC : Nat → ClassId) (dI : Nat → Nat → Nat) (cI cZ cL : ClassId) (h0 a_field a_value a_from a_told a_count : Nat) (k_count : Nat → Int32) (p1 : Int32) (p2 : Int32) (P : Int32 → Prop) (h : zp_Chg_has p1 p2 k_count P) : Met l y_Chg_has w_Chg_has ({ frames := 1, cells := 0, slots := 0, locals := 22 }) (va_Pc [.ref h0, .int p1, .int p2] (fun U => va_P (dC, dI) vwCl [(h0, .inr (2, [.ref a_field, .ref a_value, .ref a_from, .ref a_told, .ref a_count])), (a_count, .inl (cI, 60, .inl k_count))] U.heap ∧ va_K (dC, dI) vwCl [(cI, .int), (cZ, .boolean), (cL, .long)] U ∧ zn_ok U)) (zq_Ri P) 0 0 (fun _ => False) := by
  refine Met.ofW (cc := b_Chg_has) (maxL := 3) (ret := (some .boolean)) (by decide) rfl ?_
  intro p e s m args below meth c s₁ B hml hv
  obtain ⟨rfl, hP, hK, hN⟩ := hv
  have hx := B.exec
  have hb := B.bytes
  have hr := B.returns
  have hts0 := atoms_spec (ws := w_Chg_has) B.pre
  have hts : ∀ w ∈ zw_T, w.before ([.ref h0, .int p1, .int p2] : List Value).toArray s = true := fun w h => hts0 w (List.mem_cons_of_mem _ h)
  have hown : s.vm.findClass R_Chg = some m.cls := findClass_of_methodNamed B.named
  have hlocks := B.notSynchronized
  have hl := lv_entry ([.ref h0, .int p1, .int p2]) (n := 3) (Nat.le_of_ble_eq_true rfl)
  rw [lg_entry_eq]
  generalize (lg_sl ([.ref h0, .int p1, .int p2]) ++ List.replicate (3 - (lg_sl ([.ref h0, .int p1, .int p2])).length) Slot.unset).toArray = ls at hl ⊢
  have hl : lv_has ls 3 [(0, .ref h0), (1, .int p1), (2, .int p2)] := hl
  unfold zp_Chg_has at h
  refine lv_iload_n hx hb d_Chg_has_0 rfl (lv_at hl 2 rfl) ?_
  refine lv_iconst (v := 0) hx hb d_Chg_has_1 (by decide) ?_
  refine lv_aload_n hx hb d_Chg_has_2 rfl (lv_at hl 0 rfl) ?_
  refine va_get (D := (dC, dI)) (ci := 2) (v := .ref a_count) (C := R_Chg) (T := F_Chg) (N := 5) hx hb hts zl_Chg hown hK hP 0 rfl rfl 4 (by decide) (hts _ zw_9) (fun _ h9 => h9) rfl d_Chg_has_3 ?_
  refine lv_iload_n hx hb d_Chg_has_6 rfl (lv_at hl 1 rfl) ?_
  refine va_iald hx hb hK hP 1 0 rfl rfl h.1 d_Chg_has_7 ?_
  have h := h.2
  refine lv_iconst (v := 1) hx hb d_Chg_has_8 (by decide) ?_
  refine lv_isub hx hb d_Chg_has_9 ?_
  have hPc := hP.sub (ws' := []) [] rfl
  refine zq_calli (va_runSN (As := [.int p2, .int 0, .int ((k_count p1.toNatClampNeg) - 1)]) (rest := []) ⟨hx, hb, hml, hown, hts⟩ (zc_Or_isWithin l dC dI cI cZ cL p2 0 ((k_count p1.toNatClampNeg) - 1) _ h) ⟨va_cnB (host := "OrderRows") 3 hts (zg_N zw_10) rfl rfl rfl hN.1 (hts _ zw_11) (by decide +kernel) ⟨Nat.le_of_ble_eq_true rfl, Nat.le_of_ble_eq_true rfl⟩, hts _ zw_12, trivial⟩ ⟨zb_p, zb_preP hPc hK hN⟩ rfl rfl hl.1 rfl (lv_room (Nat.le_of_ble_eq_true rfl)) d_Chg_has_10 ⟨Nat.le_of_ble_eq_true rfl, Nat.le_of_ble_eq_true rfl⟩) (fun r1 h => ?_)
  exact W.zret (v := r1) (ty := .boolean) hx hb hr h.1 (fun t ht hW => ⟨_, rfl, h.2, ht⟩) (fun q hq => nomatch hq) d_Chg_has_13
set_option maxHeartbeats 4000000 in
set_option maxRecDepth 100000 in
theorem zc_Chg_look (l : Launch) (dC : Nat → ClassId) (dI : Nat → Nat → Nat) (cI cZ cL : ClassId) (h0 a_field a_value a_from a_told a_count : Nat) (k_field : Nat → Int32) (k_value : Nat → Int32) (k_from : Nat → Int32) (k_told : Nat → Int32) (p1 : Int32) (p2 : Int32) (p3 : Int32) (P : Int32 → Prop) (h : zp_Chg_look p1 p2 p3 k_field k_value k_from k_told P) : Met l y_Chg_look w_Chg_look ({ frames := 0, cells := 0, slots := 0, locals := 0 }) (va_Pc [.ref h0, .int p1, .int p2, .int p3] (fun U => va_P (dC, dI) vwCl [(h0, .inr (2, [.ref a_field, .ref a_value, .ref a_from, .ref a_told, .ref a_count])), (a_field, .inl (cI, 1200, .inl k_field)), (a_value, .inl (cI, 1200, .inl k_value)), (a_from, .inl (cI, 1200, .inl k_from)), (a_told, .inl (cI, 1200, .inl k_told))] U.heap ∧ va_K (dC, dI) vwCl [(cI, .int), (cZ, .boolean), (cL, .long)] U ∧ zn_ok U)) (zq_Ri P) 0 0 (fun _ => False) := by
  refine Met.ofW (cc := b_Chg_look) (maxL := 5) (ret := (some .int)) (by decide) rfl ?_
  intro p e s m args below meth c s₁ B hml hv
  obtain ⟨rfl, hP, hK, hN⟩ := hv
  have hx := B.exec
  have hb := B.bytes
  have hr := B.returns
  have hts0 := atoms_spec (ws := w_Chg_look) B.pre
  have hts : ∀ w ∈ zw_T, w.before ([.ref h0, .int p1, .int p2, .int p3] : List Value).toArray s = true := fun w h => hts0 w (List.mem_cons_of_mem _ h)
  have hown : s.vm.findClass R_Chg = some m.cls := findClass_of_methodNamed B.named
  have hlocks := B.notSynchronized
  have hl := lv_entry ([.ref h0, .int p1, .int p2, .int p3]) (n := 5) (Nat.le_of_ble_eq_true rfl)
  rw [lg_entry_eq]
  generalize (lg_sl ([.ref h0, .int p1, .int p2, .int p3]) ++ List.replicate (5 - (lg_sl ([.ref h0, .int p1, .int p2, .int p3])).length) Slot.unset).toArray = ls at hl ⊢
  have hl : lv_has ls 5 [(0, .ref h0), (1, .int p1), (2, .int p2), (3, .int p3)] := hl
  unfold zp_Chg_look at h
  refine lv_iload_n hx hb d_Chg_look_0 rfl (lv_at hl 1 rfl) ?_
  refine lv_bipush (v := 20) hx hb d_Chg_look_1 (by decide) ?_
  refine lv_imul hx hb d_Chg_look_3 ?_
  refine lv_iload_n hx hb d_Chg_look_4 rfl (lv_at hl 2 rfl) ?_
  refine lv_iadd hx hb d_Chg_look_5 ?_
  refine lv_topi (fun y1 ey1 => ?_)
  have h := h y1 ey1
  refine lv_istore (lv' := [(4, .int y1), (0, .ref h0), (1, .int p1), (2, .int p2), (3, .int p3)]) hx hb d_Chg_look_6 hl (by decide) rfl (fun ls hl => ?_)
  refine lv_iload_n hx hb d_Chg_look_8 rfl (lv_at hl 4 rfl) ?_
  by_cases c2_0 : p3 = 0
  · have h := h.1 c2_0
    refine lv_tableIn (tgt := 36) (off := 27) hx hb d_Chg_look_9 (by rw [c2_0]; decide) (by rw [c2_0]; decide) (by rw [c2_0]; decide) (by decide) ?_
    refine lv_aload_n hx hb d_Chg_look_36 rfl (lv_at hl 1 rfl) ?_
    refine va_get (D := (dC, dI)) (ci := 2) (v := .ref a_field) (C := R_Chg) (T := F_Chg) (N := 5) hx hb hts zl_Chg hown hK hP 0 rfl rfl 0 (by decide) (hts _ zw_13) (fun _ h9 => h9) rfl d_Chg_look_37 ?_
    refine lv_iload hx hb d_Chg_look_40 (lv_at hl 0 rfl) ?_
    refine va_iald hx hb hK hP 1 0 rfl rfl h.1 d_Chg_look_42 ?_
    have h := h.2
    exact W.iret (v := k_field y1.toNatClampNeg) hx hb hr (fun t ht hW => ⟨_, rfl, h, ht⟩) (fun q hq => nomatch hq) d_Chg_look_43
  by_cases c2_1 : p3 = 1
  · have h := h.2.1 c2_1
    refine lv_tableIn (tgt := 44) (off := 35) hx hb d_Chg_look_9 (by rw [c2_1]; decide) (by rw [c2_1]; decide) (by rw [c2_1]; decide) (by decide) ?_
    refine lv_aload_n hx hb d_Chg_look_44 rfl (lv_at hl 1 rfl) ?_
    refine va_get (D := (dC, dI)) (ci := 2) (v := .ref a_value) (C := R_Chg) (T := F_Chg) (N := 5) hx hb hts zl_Chg hown hK hP 0 rfl rfl 1 (by decide) (hts _ zw_14) (fun _ h9 => h9) rfl d_Chg_look_45 ?_
    refine lv_iload hx hb d_Chg_look_48 (lv_at hl 0 rfl) ?_
    refine va_iald hx hb hK hP 2 0 rfl rfl h.1 d_Chg_look_50 ?_
    have h := h.2
    exact W.iret (v := k_value y1.toNatClampNeg) hx hb hr (fun t ht hW => ⟨_, rfl, h, ht⟩) (fun q hq => nomatch hq) d_Chg_look_51
  by_cases c2_2 : p3 = 2
  · have h := h.2.2.1 c2_2
    refine lv_tableIn (tgt := 52) (off := 43) hx hb d_Chg_look_9 (by rw [c2_2]; decide) (by rw [c2_2]; decide) (by rw [c2_2]; decide) (by decide) ?_
    refine lv_aload_n hx hb d_Chg_look_52 rfl (lv_at hl 1 rfl) ?_
    refine va_get (D := (dC, dI)) (ci := 2) (v := .ref a_from) (C := R_Chg) (T := F_Chg) (N := 5) hx hb hts zl_Chg hown hK hP 0 rfl rfl 2 (by decide) (hts _ zw_15) (fun _ h9 => h9) rfl d_Chg_look_53 ?_
    refine lv_iload hx hb d_Chg_look_56 (lv_at hl 0 rfl) ?_
    refine va_iald hx hb hK hP 3 0 rfl rfl h.1 d_Chg_look_58 ?_
    have h := h.2
    exact W.iret (v := k_from y1.toNatClampNeg) hx hb hr (fun t ht hW => ⟨_, rfl, h, ht⟩) (fun q hq => nomatch hq) d_Chg_look_59
  have h := h.2.2.2 c2_0 c2_1 c2_2
  have c2_n0 := lv_neT (a := 0) c2_0 (by decide)
  have c2_n1 := lv_neT (a := 1) c2_1 (by decide)
  have c2_n2 := lv_neT (a := 2) c2_2 (by decide)
  refine lv_tableOut (tgt := 60) hx hb d_Chg_look_9 (by omega) (by decide) ?_
  refine lv_aload_n hx hb d_Chg_look_60 rfl (lv_at hl 1 rfl) ?_
  refine va_get (D := (dC, dI)) (ci := 2) (v := .ref a_told) (C := R_Chg) (T := F_Chg) (N := 5) hx hb hts zl_Chg hown hK hP 0 rfl rfl 3 (by decide) (hts _ zw_16) (fun _ h9 => h9) rfl d_Chg_look_61 ?_
  refine lv_iload hx hb d_Chg_look_64 (lv_at hl 0 rfl) ?_
  refine va_iald hx hb hK hP 4 0 rfl rfl h.1 d_Chg_look_66 ?_
  have h := h.2
  exact W.iret (v := k_told y1.toNatClampNeg) hx hb hr (fun t ht hW => ⟨_, rfl, h, ht⟩) (fun q hq => nomatch hq) d_Chg_look_67
set_option maxHeartbeats 4000000 in
set_option maxRecDepth 100000 in
theorem zc_Chg_valueOn (l : Launch) (dC : Nat → ClassId) (dI : Nat → Nat → Nat) (cI cZ cL : ClassId) (h0 a_field a_value a_from a_told a_count : Nat) (k_field : Nat → Int32) (k_value : Nat → Int32) (k_from : Nat → Int32) (k_count : Nat → Int32) (p1 : Int32) (p2 : Int32) (p3 : Int32) (p4 : Int32) (P : Int32 → Prop) (h : zp_Chg_valueOn p1 p2 p3 p4 k_field k_value k_from k_count P) : Met l y_Chg_valueOn w_Chg_valueOn ({ frames := 1, cells := 0, slots := 0, locals := 22 }) (va_Pc [.ref h0, .int p1, .int p2, .int p3, .int p4] (fun U => va_P (dC, dI) vwCl [(h0, .inr (2, [.ref a_field, .ref a_value, .ref a_from, .ref a_told, .ref a_count])), (a_field, .inl (cI, 1200, .inl k_field)), (a_value, .inl (cI, 1200, .inl k_value)), (a_from, .inl (cI, 1200, .inl k_from)), (a_count, .inl (cI, 60, .inl k_count))] U.heap ∧ va_K (dC, dI) vwCl [(cI, .int), (cZ, .boolean), (cL, .long)] U ∧ zn_ok U)) (zq_Ri P) 0 0 (fun _ => False) := by
  refine Met.ofW (cc := b_Chg_valueOn) (maxL := 10) (ret := (some .int)) (by decide) rfl ?_
  intro p e s m args below meth c s₁ B hml hv
  obtain ⟨rfl, hP, hK, hN⟩ := hv
  have hx := B.exec
  have hb := B.bytes
  have hr := B.returns
  have hts0 := atoms_spec (ws := w_Chg_valueOn) B.pre
  have hts : ∀ w ∈ zw_T, w.before ([.ref h0, .int p1, .int p2, .int p3, .int p4] : List Value).toArray s = true := fun w h => hts0 w (List.mem_cons_of_mem _ h)
  have hown : s.vm.findClass R_Chg = some m.cls := findClass_of_methodNamed B.named
  have hlocks := B.notSynchronized
  have hl := lv_entry ([.ref h0, .int p1, .int p2, .int p3, .int p4]) (n := 10) (Nat.le_of_ble_eq_true rfl)
  rw [lg_entry_eq]
  generalize (lg_sl ([.ref h0, .int p1, .int p2, .int p3, .int p4]) ++ List.replicate (10 - (lg_sl ([.ref h0, .int p1, .int p2, .int p3, .int p4])).length) Slot.unset).toArray = ls at hl ⊢
  have hl : lv_has ls 10 [(0, .ref h0), (1, .int p1), (2, .int p2), (3, .int p3), (4, .int p4)] := hl
  have B80 : ∀ (v5 : Int32) (v6 : Int32) (v8 : Int32) (v9 : Int32) (K28 : Int32 → Int32 → Int32 → Prop) (hK28 : ∀ (v5 : Int32) (v6 : Int32) (v9 : Int32), ∀ (ls : Array Slot), K28 v5 v6 v9 → lv_has ls 10 [(0, .ref h0), (2, .int p2), (3, .int p3), (5, .int v5), (6, .int v6), (8, .int v8), (9, .int v9)] → W p l e (headSpec w_Chg_valueOn ({ frames := 1, cells := 0, slots := 0, locals := 22 })).room s m ([.ref h0, .int p1, .int p2, .int p3, .int p4] : List Value).toArray below meth c s.heap [] 0 0 (MQ below (zq_Ri P) ([.ref h0, .int p1, .int p2, .int p3, .int p4] : List Value).toArray s 0 0 (fun _ => False)) (F0 m 28 ls [])), ∀ (ls : Array Slot), zp_Chg_valueOn_80 K28 v5 v6 v9 → lv_has ls 10 [(0, .ref h0), (2, .int p2), (3, .int p3), (5, .int v5), (6, .int v6), (8, .int v8), (9, .int v9)] → W p l e (headSpec w_Chg_valueOn ({ frames := 1, cells := 0, slots := 0, locals := 22 })).room s m ([.ref h0, .int p1, .int p2, .int p3, .int p4] : List Value).toArray below meth c s.heap [] 0 0 (MQ below (zq_Ri P) ([.ref h0, .int p1, .int p2, .int p3, .int p4] : List Value).toArray s 0 0 (fun _ => False)) (F0 m 80 ls []) := by
    intro v5 v6 v8 v9 K28 hK28 ls h hl
    unfold zp_Chg_valueOn_80 at h
    refine lv_iinc (v := v9 + 1) (lv' := [(9, .int (v9 + 1)), (0, .ref h0), (2, .int p2), (3, .int p3), (5, .int v5), (6, .int v6), (8, .int v8)]) hx hb d_Chg_valueOn_80 hl (k := 6) rfl rfl (by decide) rfl (fun ls hl => ?_)
    refine lv_goto (tgt := 28) hx hb d_Chg_valueOn_83 (by decide) ?_
    exact hK28 v5 v6 (v9 + 1) ls h (lv_sub hl [1, 2, 3, 4, 5, 6, 0] rfl)
  have B28 : ∀ (v8 : Int32), ∀ (n : Nat) (v5 : Int32) (v6 : Int32) (v9 : Int32), ∀ (ls : Array Slot), zp_Chg_valueOn_28 p2 p3 k_field k_value k_from P v8 n v5 v6 v9 → lv_has ls 10 [(0, .ref h0), (2, .int p2), (3, .int p3), (5, .int v5), (6, .int v6), (8, .int v8), (9, .int v9)] → W p l e (headSpec w_Chg_valueOn ({ frames := 1, cells := 0, slots := 0, locals := 22 })).room s m ([.ref h0, .int p1, .int p2, .int p3, .int p4] : List Value).toArray below meth c s.heap [] 0 0 (MQ below (zq_Ri P) ([.ref h0, .int p1, .int p2, .int p3, .int p4] : List Value).toArray s 0 0 (fun _ => False)) (F0 m 28 ls []) := by
    intro v8
    intro n
    induction n with
    | zero =>
      intro v5 v6 v9 ls h hl
      exact h.elim
    | succ n ih =>
      intro v5 v6 v9 ls h hl
      unfold zp_Chg_valueOn_28 at h
      refine lv_iload hx hb d_Chg_valueOn_28 (lv_at hl 6 rfl) ?_
      refine lv_iload hx hb d_Chg_valueOn_30 (lv_at hl 5 rfl) ?_
      refine lv_icmp_ge (tgt := 86) hx hb d_Chg_valueOn_32 (by decide) (fun c1 => ?_) (fun c1 => ?_)
      · have h := h.1 c1
        refine lv_iload hx hb d_Chg_valueOn_86 (lv_at hl 3 rfl) ?_
        exact W.iret (v := v5) hx hb hr (fun t ht hW => ⟨_, rfl, h, ht⟩) (fun q hq => nomatch hq) d_Chg_valueOn_88
      · have h := h.2 c1
        refine lv_aload_n hx hb d_Chg_valueOn_35 rfl (lv_at hl 0 rfl) ?_
        refine va_get (D := (dC, dI)) (ci := 2) (v := .ref a_field) (C := R_Chg) (T := F_Chg) (N := 5) hx hb hts zl_Chg hown hK hP 0 rfl rfl 0 (by decide) (hts _ zw_13) (fun _ h9 => h9) rfl d_Chg_valueOn_36 ?_
        refine lv_iload hx hb d_Chg_valueOn_39 (lv_at hl 6 rfl) ?_
        refine va_iald hx hb hK hP 1 0 rfl rfl h.1 d_Chg_valueOn_41 ?_
        have h := h.2
        refine lv_iload_n hx hb d_Chg_valueOn_42 rfl (lv_at hl 1 rfl) ?_
        refine lv_icmp_ne (tgt := 80) hx hb d_Chg_valueOn_43 (by decide) (fun c2 => ?_) (fun c2 => ?_)
        · have h := h.1 c2
          exact B80 v5 v6 v8 v9 _ ih ls h (lv_sub hl [0, 1, 2, 3, 4, 5, 6] rfl)
        · have h := h.2 c2
          refine lv_aload_n hx hb d_Chg_valueOn_46 rfl (lv_at hl 0 rfl) ?_
          refine va_get (D := (dC, dI)) (ci := 2) (v := .ref a_from) (C := R_Chg) (T := F_Chg) (N := 5) hx hb hts zl_Chg hown hK hP 0 rfl rfl 2 (by decide) (hts _ zw_15) (fun _ h9 => h9) rfl d_Chg_valueOn_47 ?_
          refine lv_iload hx hb d_Chg_valueOn_50 (lv_at hl 6 rfl) ?_
          refine va_iald hx hb hK hP 3 0 rfl rfl h.1 d_Chg_valueOn_52 ?_
          have h := h.2
          refine lv_iload hx hb d_Chg_valueOn_53 (lv_at hl 4 rfl) ?_
          refine lv_iload_n hx hb d_Chg_valueOn_55 rfl (lv_at hl 2 rfl) ?_
          have hPc := hP.sub (ws' := []) [] rfl
          refine zq_calli (va_runSN (As := [.int (k_from v9.toNatClampNeg), .int v6, .int p3]) (rest := []) ⟨hx, hb, hml, hown, hts⟩ (zc_Or_isWithin l dC dI cI cZ cL (k_from v9.toNatClampNeg) v6 p3 _ h) ⟨va_cnB (host := "OrderRows") 3 hts (zg_N zw_10) rfl rfl rfl hN.1 (hts _ zw_11) (by decide +kernel) ⟨Nat.le_of_ble_eq_true rfl, Nat.le_of_ble_eq_true rfl⟩, hts _ zw_12, trivial⟩ ⟨zb_p, zb_preP hPc hK hN⟩ rfl rfl hl.1 rfl (lv_room (Nat.le_of_ble_eq_true rfl)) d_Chg_valueOn_56 ⟨Nat.le_of_ble_eq_true rfl, Nat.le_of_ble_eq_true rfl⟩) (fun r3 h => ?_)
          refine lv_if_eq (tgt := 80) hx hb d_Chg_valueOn_59 (by decide) (fun c4 => ?_) (fun c4 => ?_)
          · have h := h.1 c4
            exact B80 v5 v6 v8 v9 _ ih ls h (lv_sub hl [0, 1, 2, 3, 4, 5, 6] rfl)
          · have h := h.2 c4
            refine lv_aload_n hx hb d_Chg_valueOn_62 rfl (lv_at hl 0 rfl) ?_
            refine va_get (D := (dC, dI)) (ci := 2) (v := .ref a_value) (C := R_Chg) (T := F_Chg) (N := 5) hx hb hts zl_Chg hown hK hP 0 rfl rfl 1 (by decide) (hts _ zw_14) (fun _ h9 => h9) rfl d_Chg_valueOn_63 ?_
            refine lv_iload hx hb d_Chg_valueOn_66 (lv_at hl 6 rfl) ?_
            refine va_iald hx hb hK hP 2 0 rfl rfl h.1 d_Chg_valueOn_68 ?_
            have h := h.2
            refine lv_topi (fun y5 ey5 => ?_)
            have h := h y5 ey5
            refine lv_istore (lv' := [(5, .int y5), (0, .ref h0), (2, .int p2), (3, .int p3), (6, .int v6), (8, .int v8), (9, .int v9)]) hx hb d_Chg_valueOn_69 hl (by decide) rfl (fun ls hl => ?_)
            refine lv_aload_n hx hb d_Chg_valueOn_71 rfl (lv_at hl 1 rfl) ?_
            refine va_get (D := (dC, dI)) (ci := 2) (v := .ref a_from) (C := R_Chg) (T := F_Chg) (N := 5) hx hb hts zl_Chg hown hK hP 0 rfl rfl 2 (by decide) (hts _ zw_15) (fun _ h9 => h9) rfl d_Chg_valueOn_72 ?_
            refine lv_iload hx hb d_Chg_valueOn_75 (lv_at hl 6 rfl) ?_
            refine va_iald hx hb hK hP 3 0 rfl rfl h.1 d_Chg_valueOn_77 ?_
            have h := h.2
            refine lv_topi (fun y6 ey6 => ?_)
            have h := h y6 ey6
            refine lv_istore (lv' := [(6, .int y6), (5, .int y5), (0, .ref h0), (2, .int p2), (3, .int p3), (8, .int v8), (9, .int v9)]) hx hb d_Chg_valueOn_78 hl (by decide) rfl (fun ls hl => ?_)
            exact B80 y5 y6 v8 v9 _ ih ls h (lv_sub hl [2, 3, 4, 1, 0, 5, 6] rfl)
  unfold zp_Chg_valueOn at h
  refine lv_iload hx hb d_Chg_valueOn_0 (lv_at hl 4 rfl) ?_
  refine lv_istore (lv' := [(5, .int p4), (0, .ref h0), (1, .int p1), (2, .int p2), (3, .int p3), (4, .int p4)]) hx hb d_Chg_valueOn_2 hl (by decide) rfl (fun ls hl => ?_)
  refine lv_iconst (v := 0) hx hb d_Chg_valueOn_4 (by decide) ?_
  refine lv_istore (lv' := [(6, .int 0), (5, .int p4), (0, .ref h0), (1, .int p1), (2, .int p2), (3, .int p3), (4, .int p4)]) hx hb d_Chg_valueOn_5 hl (by decide) rfl (fun ls hl => ?_)
  refine lv_iload_n hx hb d_Chg_valueOn_7 rfl (lv_at hl 3 rfl) ?_
  refine lv_bipush (v := 20) hx hb d_Chg_valueOn_8 (by decide) ?_
  refine lv_imul hx hb d_Chg_valueOn_10 ?_
  refine lv_topi (fun y7 ey7 => ?_)
  have h := h y7 ey7
  refine lv_istore (lv' := [(7, .int y7), (6, .int 0), (5, .int p4), (0, .ref h0), (1, .int p1), (2, .int p2), (3, .int p3), (4, .int p4)]) hx hb d_Chg_valueOn_11 hl (by decide) rfl (fun ls hl => ?_)
  refine lv_iload hx hb d_Chg_valueOn_13 (lv_at hl 0 rfl) ?_
  refine lv_aload_n hx hb d_Chg_valueOn_15 rfl (lv_at hl 3 rfl) ?_
  refine va_get (D := (dC, dI)) (ci := 2) (v := .ref a_count) (C := R_Chg) (T := F_Chg) (N := 5) hx hb hts zl_Chg hown hK hP 0 rfl rfl 4 (by decide) (hts _ zw_9) (fun _ h9 => h9) rfl d_Chg_valueOn_16 ?_
  refine lv_iload_n hx hb d_Chg_valueOn_19 rfl (lv_at hl 4 rfl) ?_
  refine va_iald hx hb hK hP 4 0 rfl rfl h.1 d_Chg_valueOn_20 ?_
  have h := h.2
  refine lv_iadd hx hb d_Chg_valueOn_21 ?_
  refine lv_topi (fun y8 ey8 => ?_)
  have h := h y8 ey8
  refine lv_istore (lv' := [(8, .int y8), (7, .int y7), (6, .int 0), (5, .int p4), (0, .ref h0), (1, .int p1), (2, .int p2), (3, .int p3), (4, .int p4)]) hx hb d_Chg_valueOn_22 hl (by decide) rfl (fun ls hl => ?_)
  refine lv_iload hx hb d_Chg_valueOn_24 (lv_at hl 1 rfl) ?_
  refine lv_istore (lv' := [(9, .int y7), (8, .int y8), (7, .int y7), (6, .int 0), (5, .int p4), (0, .ref h0), (1, .int p1), (2, .int p2), (3, .int p3), (4, .int p4)]) hx hb d_Chg_valueOn_26 hl (by decide) rfl (fun ls hl => ?_)
  obtain ⟨n, h⟩ := h
  exact B28 y8 n p4 0 y7 ls h (lv_sub hl [5, 7, 8, 4, 3, 1, 0] rfl)
set_option maxHeartbeats 4000000 in
set_option maxRecDepth 100000 in
theorem zc_Itm_has (l : Launch) (dC : Nat → ClassId) (dI : Nat → Nat → Nat) (cI cZ cL : ClassId) (h0 a_orderOf a_agreedRule a_first : Nat) (k_count : Int32) (p1 : Int32) (P : Int32 → Prop) (h : zp_Itm_has p1 k_count P) : Met l y_Itm_has w_Itm_has ({ frames := 1, cells := 0, slots := 0, locals := 22 }) (va_Pc [.ref h0, .int p1] (fun U => va_P (dC, dI) vwCl [(h0, .inr (3, [.ref a_orderOf, .ref a_agreedRule, .ref a_first, .int k_count]))] U.heap ∧ va_K (dC, dI) vwCl [(cI, .int), (cZ, .boolean), (cL, .long)] U ∧ zn_ok U)) (zq_Ri P) 0 0 (fun _ => False) := by
  refine Met.ofW (cc := b_Itm_has) (maxL := 2) (ret := (some .boolean)) (by decide) rfl ?_
  intro p e s m args below meth c s₁ B hml hv
  obtain ⟨rfl, hP, hK, hN⟩ := hv
  have hx := B.exec
  have hb := B.bytes
  have hr := B.returns
  have hts0 := atoms_spec (ws := w_Itm_has) B.pre
  have hts : ∀ w ∈ zw_T, w.before ([.ref h0, .int p1] : List Value).toArray s = true := fun w h => hts0 w (List.mem_cons_of_mem _ h)
  have hown : s.vm.findClass R_Itm = some m.cls := findClass_of_methodNamed B.named
  have hlocks := B.notSynchronized
  have hl := lv_entry ([.ref h0, .int p1]) (n := 2) (Nat.le_of_ble_eq_true rfl)
  rw [lg_entry_eq]
  generalize (lg_sl ([.ref h0, .int p1]) ++ List.replicate (2 - (lg_sl ([.ref h0, .int p1])).length) Slot.unset).toArray = ls at hl ⊢
  have hl : lv_has ls 2 [(0, .ref h0), (1, .int p1)] := hl
  unfold zp_Itm_has at h
  refine lv_iload_n hx hb d_Itm_has_0 rfl (lv_at hl 1 rfl) ?_
  refine lv_iconst (v := 0) hx hb d_Itm_has_1 (by decide) ?_
  refine lv_aload_n hx hb d_Itm_has_2 rfl (lv_at hl 0 rfl) ?_
  refine va_get (D := (dC, dI)) (ci := 3) (v := .int k_count) (C := R_Itm) (T := F_Itm) (N := 4) hx hb hts zl_Itm hown hK hP 0 rfl rfl 3 (by decide) (hts _ zw_17) (fun _ h9 => h9) rfl d_Itm_has_3 ?_
  refine lv_iconst (v := 1) hx hb d_Itm_has_6 (by decide) ?_
  refine lv_isub hx hb d_Itm_has_7 ?_
  have hPc := hP.sub (ws' := []) [] rfl
  refine zq_calli (va_runSN (As := [.int p1, .int 0, .int (k_count - 1)]) (rest := []) ⟨hx, hb, hml, hown, hts⟩ (zc_Or_isWithin l dC dI cI cZ cL p1 0 (k_count - 1) _ h) ⟨va_cnB (host := "OrderRows") 3 hts (zg_N zw_10) rfl rfl rfl hN.2.1 (hts _ zw_11) (by decide +kernel) ⟨Nat.le_of_ble_eq_true rfl, Nat.le_of_ble_eq_true rfl⟩, hts _ zw_12, trivial⟩ ⟨zb_p, zb_preP hPc hK hN⟩ rfl rfl hl.1 rfl (lv_room (Nat.le_of_ble_eq_true rfl)) d_Itm_has_8 ⟨Nat.le_of_ble_eq_true rfl, Nat.le_of_ble_eq_true rfl⟩) (fun r1 h => ?_)
  exact W.zret (v := r1) (ty := .boolean) hx hb hr h.1 (fun t ht hW => ⟨_, rfl, h.2, ht⟩) (fun q hq => nomatch hq) d_Itm_has_11
set_option maxHeartbeats 4000000 in
set_option maxRecDepth 100000 in
theorem zc_Itm_atFirst (l : Launch) (dC : Nat → ClassId) (dI : Nat → Nat → Nat) (cI cZ cL : ClassId) (h0 a_orderOf a_agreedRule a_first : Nat) (k_first : Nat → Int32) (k_count : Int32) (p1 : Int32) (p2 : Int32) (P : Int32 → Prop) (h : zp_Itm_atFirst p1 p2 k_first P) : Met l y_Itm_atFirst w_Itm_atFirst ({ frames := 0, cells := 0, slots := 0, locals := 0 }) (va_Pc [.ref h0, .int p1, .int p2] (fun U => va_P (dC, dI) vwCl [(h0, .inr (3, [.ref a_orderOf, .ref a_agreedRule, .ref a_first, .int k_count])), (a_first, .inl (cI, 360, .inl k_first))] U.heap ∧ va_K (dC, dI) vwCl [(cI, .int), (cZ, .boolean), (cL, .long)] U ∧ zn_ok U)) (zq_Ri P) 0 0 (fun _ => False) := by
  refine Met.ofW (cc := b_Itm_atFirst) (maxL := 3) (ret := (some .int)) (by decide) rfl ?_
  intro p e s m args below meth c s₁ B hml hv
  obtain ⟨rfl, hP, hK, hN⟩ := hv
  have hx := B.exec
  have hb := B.bytes
  have hr := B.returns
  have hts0 := atoms_spec (ws := w_Itm_atFirst) B.pre
  have hts : ∀ w ∈ zw_T, w.before ([.ref h0, .int p1, .int p2] : List Value).toArray s = true := fun w h => hts0 w (List.mem_cons_of_mem _ h)
  have hown : s.vm.findClass R_Itm = some m.cls := findClass_of_methodNamed B.named
  have hlocks := B.notSynchronized
  have hl := lv_entry ([.ref h0, .int p1, .int p2]) (n := 3) (Nat.le_of_ble_eq_true rfl)
  rw [lg_entry_eq]
  generalize (lg_sl ([.ref h0, .int p1, .int p2]) ++ List.replicate (3 - (lg_sl ([.ref h0, .int p1, .int p2])).length) Slot.unset).toArray = ls at hl ⊢
  have hl : lv_has ls 3 [(0, .ref h0), (1, .int p1), (2, .int p2)] := hl
  unfold zp_Itm_atFirst at h
  refine lv_aload_n hx hb d_Itm_atFirst_0 rfl (lv_at hl 0 rfl) ?_
  refine va_get (D := (dC, dI)) (ci := 3) (v := .ref a_first) (C := R_Itm) (T := F_Itm) (N := 4) hx hb hts zl_Itm hown hK hP 0 rfl rfl 2 (by decide) (hts _ zw_19) (fun _ h9 => h9) rfl d_Itm_atFirst_1 ?_
  refine lv_iload_n hx hb d_Itm_atFirst_4 rfl (lv_at hl 1 rfl) ?_
  refine lv_bipush (v := 6) hx hb d_Itm_atFirst_5 (by decide) ?_
  refine lv_imul hx hb d_Itm_atFirst_7 ?_
  refine lv_iload_n hx hb d_Itm_atFirst_8 rfl (lv_at hl 2 rfl) ?_
  refine lv_iadd hx hb d_Itm_atFirst_9 ?_
  refine va_iald hx hb hK hP 1 0 rfl rfl h.1 d_Itm_atFirst_10 ?_
  have h := h.2
  exact W.iret (v := k_first ((p1 * 6) + p2).toNatClampNeg) hx hb hr (fun t ht hW => ⟨_, rfl, h, ht⟩) (fun q hq => nomatch hq) d_Itm_atFirst_11
set_option maxHeartbeats 4000000 in
set_option maxRecDepth 100000 in
theorem zc_Itm_isAgreed (l : Launch) (dC : Nat → ClassId) (dI : Nat → Nat → Nat) (cI cZ cL : ClassId) (h0 a_orderOf a_agreedRule a_first : Nat) (k_agreedRule : Nat → Int32) (k_count : Int32) (p1 : Int32) (p2 : Int32) (P : Int32 → Prop) (h : zp_Itm_isAgreed p1 p2 k_agreedRule P) : Met l y_Itm_isAgreed w_Itm_isAgreed ({ frames := 0, cells := 0, slots := 0, locals := 0 }) (va_Pc [.ref h0, .int p1, .int p2] (fun U => va_P (dC, dI) vwCl [(h0, .inr (3, [.ref a_orderOf, .ref a_agreedRule, .ref a_first, .int k_count])), (a_agreedRule, .inl (cI, 60, .inl k_agreedRule))] U.heap ∧ va_K (dC, dI) vwCl [(cI, .int), (cZ, .boolean), (cL, .long)] U ∧ zn_ok U)) (zq_Ri P) 0 0 (fun _ => False) := by
  refine Met.ofW (cc := b_Itm_isAgreed) (maxL := 3) (ret := (some .boolean)) (by decide) rfl ?_
  intro p e s m args below meth c s₁ B hml hv
  obtain ⟨rfl, hP, hK, hN⟩ := hv
  have hx := B.exec
  have hb := B.bytes
  have hr := B.returns
  have hts0 := atoms_spec (ws := w_Itm_isAgreed) B.pre
  have hts : ∀ w ∈ zw_T, w.before ([.ref h0, .int p1, .int p2] : List Value).toArray s = true := fun w h => hts0 w (List.mem_cons_of_mem _ h)
  have hown : s.vm.findClass R_Itm = some m.cls := findClass_of_methodNamed B.named
  have hlocks := B.notSynchronized
  have hl := lv_entry ([.ref h0, .int p1, .int p2]) (n := 3) (Nat.le_of_ble_eq_true rfl)
  rw [lg_entry_eq]
  generalize (lg_sl ([.ref h0, .int p1, .int p2]) ++ List.replicate (3 - (lg_sl ([.ref h0, .int p1, .int p2])).length) Slot.unset).toArray = ls at hl ⊢
  have hl : lv_has ls 3 [(0, .ref h0), (1, .int p1), (2, .int p2)] := hl
  unfold zp_Itm_isAgreed at h
  refine lv_aload_n hx hb d_Itm_isAgreed_0 rfl (lv_at hl 0 rfl) ?_
  refine va_get (D := (dC, dI)) (ci := 3) (v := .ref a_agreedRule) (C := R_Itm) (T := F_Itm) (N := 4) hx hb hts zl_Itm hown hK hP 0 rfl rfl 1 (by decide) (hts _ zw_20) (fun _ h9 => h9) rfl d_Itm_isAgreed_1 ?_
  refine lv_iload_n hx hb d_Itm_isAgreed_4 rfl (lv_at hl 1 rfl) ?_
  refine va_iald hx hb hK hP 1 0 rfl rfl h.1 d_Itm_isAgreed_5 ?_
  have h := h.2
  refine lv_if_eq (tgt := 23) hx hb d_Itm_isAgreed_6 (by decide) (fun c1 => ?_) (fun c1 => ?_)
  · have h := h.1 c1
    refine lv_iconst (v := 0) hx hb d_Itm_isAgreed_23 (by decide) ?_
    exact W.zret (v := 0) (ty := .boolean) hx hb hr h.1 (fun t ht hW => ⟨_, rfl, h.2, ht⟩) (fun q hq => nomatch hq) d_Itm_isAgreed_24
  · have h := h.2 c1
    refine lv_aload_n hx hb d_Itm_isAgreed_9 rfl (lv_at hl 0 rfl) ?_
    refine va_get (D := (dC, dI)) (ci := 3) (v := .ref a_agreedRule) (C := R_Itm) (T := F_Itm) (N := 4) hx hb hts zl_Itm hown hK hP 0 rfl rfl 1 (by decide) (hts _ zw_20) (fun _ h9 => h9) rfl d_Itm_isAgreed_10 ?_
    refine lv_iload_n hx hb d_Itm_isAgreed_13 rfl (lv_at hl 1 rfl) ?_
    refine va_iald hx hb hK hP 1 0 rfl rfl h.1 d_Itm_isAgreed_14 ?_
    have h := h.2
    refine lv_iload_n hx hb d_Itm_isAgreed_15 rfl (lv_at hl 2 rfl) ?_
    refine lv_icmp_ne (tgt := 23) hx hb d_Itm_isAgreed_16 (by decide) (fun c2 => ?_) (fun c2 => ?_)
    · have h := h.1 c2
      refine lv_iconst (v := 0) hx hb d_Itm_isAgreed_23 (by decide) ?_
      exact W.zret (v := 0) (ty := .boolean) hx hb hr h.1 (fun t ht hW => ⟨_, rfl, h.2, ht⟩) (fun q hq => nomatch hq) d_Itm_isAgreed_24
    · have h := h.2 c2
      refine lv_iconst (v := 1) hx hb d_Itm_isAgreed_19 (by decide) ?_
      refine lv_goto (tgt := 24) hx hb d_Itm_isAgreed_20 (by decide) ?_
      exact W.zret (v := 1) (ty := .boolean) hx hb hr h.1 (fun t ht hW => ⟨_, rfl, h.2, ht⟩) (fun q hq => nomatch hq) d_Itm_isAgreed_24
set_option maxHeartbeats 4000000 in
set_option maxRecDepth 100000 in
theorem zc_Ord_has (l : Launch) (dC : Nat → ClassId) (dI : Nat → Nat → Nat) (cI cZ cL : ClassId) (h0 a_customer a_due a_group : Nat) (k_count : Int32) (p1 : Int32) (P : Int32 → Prop) (h : zp_Ord_has p1 k_count P) : Met l y_Ord_has w_Ord_has ({ frames := 1, cells := 0, slots := 0, locals := 22 }) (va_Pc [.ref h0, .int p1] (fun U => va_P (dC, dI) vwCl [(h0, .inr (4, [.ref a_customer, .ref a_due, .ref a_group, .int k_count]))] U.heap ∧ va_K (dC, dI) vwCl [(cI, .int), (cZ, .boolean), (cL, .long)] U ∧ zn_ok U)) (zq_Ri P) 0 0 (fun _ => False) := by
  refine Met.ofW (cc := b_Ord_has) (maxL := 2) (ret := (some .boolean)) (by decide) rfl ?_
  intro p e s m args below meth c s₁ B hml hv
  obtain ⟨rfl, hP, hK, hN⟩ := hv
  have hx := B.exec
  have hb := B.bytes
  have hr := B.returns
  have hts0 := atoms_spec (ws := w_Ord_has) B.pre
  have hts : ∀ w ∈ zw_T, w.before ([.ref h0, .int p1] : List Value).toArray s = true := fun w h => hts0 w (List.mem_cons_of_mem _ h)
  have hown : s.vm.findClass R_Ord = some m.cls := findClass_of_methodNamed B.named
  have hlocks := B.notSynchronized
  have hl := lv_entry ([.ref h0, .int p1]) (n := 2) (Nat.le_of_ble_eq_true rfl)
  rw [lg_entry_eq]
  generalize (lg_sl ([.ref h0, .int p1]) ++ List.replicate (2 - (lg_sl ([.ref h0, .int p1])).length) Slot.unset).toArray = ls at hl ⊢
  have hl : lv_has ls 2 [(0, .ref h0), (1, .int p1)] := hl
  unfold zp_Ord_has at h
  refine lv_iload_n hx hb d_Ord_has_0 rfl (lv_at hl 1 rfl) ?_
  refine lv_iconst (v := 0) hx hb d_Ord_has_1 (by decide) ?_
  refine lv_aload_n hx hb d_Ord_has_2 rfl (lv_at hl 0 rfl) ?_
  refine va_get (D := (dC, dI)) (ci := 4) (v := .int k_count) (C := R_Ord) (T := F_Ord) (N := 4) hx hb hts zl_Ord hown hK hP 0 rfl rfl 3 (by decide) (hts _ zw_21) (fun _ h9 => h9) rfl d_Ord_has_3 ?_
  refine lv_iconst (v := 1) hx hb d_Ord_has_6 (by decide) ?_
  refine lv_isub hx hb d_Ord_has_7 ?_
  have hPc := hP.sub (ws' := []) [] rfl
  refine zq_calli (va_runSN (As := [.int p1, .int 0, .int (k_count - 1)]) (rest := []) ⟨hx, hb, hml, hown, hts⟩ (zc_Or_isWithin l dC dI cI cZ cL p1 0 (k_count - 1) _ h) ⟨va_cnB (host := "OrderRows") 3 hts (zg_N zw_10) rfl rfl rfl hN.2.2.1 (hts _ zw_11) (by decide +kernel) ⟨Nat.le_of_ble_eq_true rfl, Nat.le_of_ble_eq_true rfl⟩, hts _ zw_12, trivial⟩ ⟨zb_p, zb_preP hPc hK hN⟩ rfl rfl hl.1 rfl (lv_room (Nat.le_of_ble_eq_true rfl)) d_Ord_has_8 ⟨Nat.le_of_ble_eq_true rfl, Nat.le_of_ble_eq_true rfl⟩) (fun r1 h => ?_)
  exact W.zret (v := r1) (ty := .boolean) hx hb hr h.1 (fun t ht hW => ⟨_, rfl, h.2, ht⟩) (fun q hq => nomatch hq) d_Ord_has_11
set_option maxHeartbeats 4000000 in
set_option maxRecDepth 100000 in
theorem zc_Ord_areTogether (l : Launch) (dC : Nat → ClassId) (dI : Nat → Nat → Nat) (cI cZ cL : ClassId) (h0 a_customer a_due a_group : Nat) (k_group : Nat → Int32) (k_count : Int32) (p1 : Int32) (p2 : Int32) (P : Int32 → Prop) (h : zp_Ord_areTogether p1 p2 k_group P) : Met l y_Ord_areTogether w_Ord_areTogether ({ frames := 0, cells := 0, slots := 0, locals := 0 }) (va_Pc [.ref h0, .int p1, .int p2] (fun U => va_P (dC, dI) vwCl [(h0, .inr (4, [.ref a_customer, .ref a_due, .ref a_group, .int k_count])), (a_group, .inl (cI, 30, .inl k_group))] U.heap ∧ va_K (dC, dI) vwCl [(cI, .int), (cZ, .boolean), (cL, .long)] U ∧ zn_ok U)) (zq_Ri P) 0 0 (fun _ => False) := by
  refine Met.ofW (cc := b_Ord_areTogether) (maxL := 3) (ret := (some .boolean)) (by decide) rfl ?_
  intro p e s m args below meth c s₁ B hml hv
  obtain ⟨rfl, hP, hK, hN⟩ := hv
  have hx := B.exec
  have hb := B.bytes
  have hr := B.returns
  have hts0 := atoms_spec (ws := w_Ord_areTogether) B.pre
  have hts : ∀ w ∈ zw_T, w.before ([.ref h0, .int p1, .int p2] : List Value).toArray s = true := fun w h => hts0 w (List.mem_cons_of_mem _ h)
  have hown : s.vm.findClass R_Ord = some m.cls := findClass_of_methodNamed B.named
  have hlocks := B.notSynchronized
  have hl := lv_entry ([.ref h0, .int p1, .int p2]) (n := 3) (Nat.le_of_ble_eq_true rfl)
  rw [lg_entry_eq]
  generalize (lg_sl ([.ref h0, .int p1, .int p2]) ++ List.replicate (3 - (lg_sl ([.ref h0, .int p1, .int p2])).length) Slot.unset).toArray = ls at hl ⊢
  have hl : lv_has ls 3 [(0, .ref h0), (1, .int p1), (2, .int p2)] := hl
  unfold zp_Ord_areTogether at h
  refine lv_aload_n hx hb d_Ord_areTogether_0 rfl (lv_at hl 0 rfl) ?_
  refine va_get (D := (dC, dI)) (ci := 4) (v := .ref a_group) (C := R_Ord) (T := F_Ord) (N := 4) hx hb hts zl_Ord hown hK hP 0 rfl rfl 2 (by decide) (hts _ zw_24) (fun _ h9 => h9) rfl d_Ord_areTogether_1 ?_
  refine lv_iload_n hx hb d_Ord_areTogether_4 rfl (lv_at hl 1 rfl) ?_
  refine va_iald hx hb hK hP 1 0 rfl rfl h.1 d_Ord_areTogether_5 ?_
  have h := h.2
  refine lv_aload_n hx hb d_Ord_areTogether_6 rfl (lv_at hl 0 rfl) ?_
  refine va_get (D := (dC, dI)) (ci := 4) (v := .ref a_group) (C := R_Ord) (T := F_Ord) (N := 4) hx hb hts zl_Ord hown hK hP 0 rfl rfl 2 (by decide) (hts _ zw_24) (fun _ h9 => h9) rfl d_Ord_areTogether_7 ?_
  refine lv_iload_n hx hb d_Ord_areTogether_10 rfl (lv_at hl 2 rfl) ?_
  refine va_iald hx hb hK hP 1 0 rfl rfl h.1 d_Ord_areTogether_11 ?_
  have h := h.2
  refine lv_icmp_ne (tgt := 19) hx hb d_Ord_areTogether_12 (by decide) (fun c1 => ?_) (fun c1 => ?_)
  · have h := h.1 c1
    refine lv_iconst (v := 0) hx hb d_Ord_areTogether_19 (by decide) ?_
    exact W.zret (v := 0) (ty := .boolean) hx hb hr h.1 (fun t ht hW => ⟨_, rfl, h.2, ht⟩) (fun q hq => nomatch hq) d_Ord_areTogether_20
  · have h := h.2 c1
    refine lv_iconst (v := 1) hx hb d_Ord_areTogether_15 (by decide) ?_
    refine lv_goto (tgt := 20) hx hb d_Ord_areTogether_16 (by decide) ?_
    exact W.zret (v := 1) (ty := .boolean) hx hb hr h.1 (fun t ht hW => ⟨_, rfl, h.2, ht⟩) (fun q hq => nomatch hq) d_Ord_areTogether_20
set_option maxHeartbeats 4000000 in
set_option maxRecDepth 100000 in
theorem zc_Ord_countTogether (l : Launch) (dC : Nat → ClassId) (dI : Nat → Nat → Nat) (cI cZ cL : ClassId) (h0 a_customer a_due a_group : Nat) (k_group : Nat → Int32) (k_count : Int32) (p1 : Int32) (P : Int32 → Prop) (h : zp_Ord_countTogether p1 k_group k_count P) : Met l y_Ord_countTogether w_Ord_countTogether ({ frames := 1, cells := 0, slots := 0, locals := 22 }) (va_Pc [.ref h0, .int p1] (fun U => va_P (dC, dI) vwCl [(h0, .inr (4, [.ref a_customer, .ref a_due, .ref a_group, .int k_count])), (a_group, .inl (cI, 30, .inl k_group))] U.heap ∧ va_K (dC, dI) vwCl [(cI, .int), (cZ, .boolean), (cL, .long)] U ∧ zn_ok U)) (zq_Ri P) 0 0 (fun _ => False) := by
  refine Met.ofW (cc := b_Ord_countTogether) (maxL := 4) (ret := (some .int)) (by decide) rfl ?_
  intro p e s m args below meth c s₁ B hml hv
  obtain ⟨rfl, hP, hK, hN⟩ := hv
  have hx := B.exec
  have hb := B.bytes
  have hr := B.returns
  have hts0 := atoms_spec (ws := w_Ord_countTogether) B.pre
  have hts : ∀ w ∈ zw_T, w.before ([.ref h0, .int p1] : List Value).toArray s = true := fun w h => hts0 w (List.mem_cons_of_mem _ h)
  have hown : s.vm.findClass R_Ord = some m.cls := findClass_of_methodNamed B.named
  have hlocks := B.notSynchronized
  have hl := lv_entry ([.ref h0, .int p1]) (n := 4) (Nat.le_of_ble_eq_true rfl)
  rw [lg_entry_eq]
  generalize (lg_sl ([.ref h0, .int p1]) ++ List.replicate (4 - (lg_sl ([.ref h0, .int p1])).length) Slot.unset).toArray = ls at hl ⊢
  have hl : lv_has ls 4 [(0, .ref h0), (1, .int p1)] := hl
  have B24 : ∀ (v2 : Int32) (v3 : Int32) (K4 : Int32 → Int32 → Prop) (hK4 : ∀ (v2 : Int32) (v3 : Int32), ∀ (ls : Array Slot), K4 v2 v3 → lv_has ls 4 [(0, .ref h0), (1, .int p1), (2, .int v2), (3, .int v3)] → W p l e (headSpec w_Ord_countTogether ({ frames := 1, cells := 0, slots := 0, locals := 22 })).room s m ([.ref h0, .int p1] : List Value).toArray below meth c s.heap [] 0 0 (MQ below (zq_Ri P) ([.ref h0, .int p1] : List Value).toArray s 0 0 (fun _ => False)) (F0 m 4 ls [])), ∀ (ls : Array Slot), zp_Ord_countTogether_24 K4 v2 v3 → lv_has ls 4 [(0, .ref h0), (1, .int p1), (2, .int v2), (3, .int v3)] → W p l e (headSpec w_Ord_countTogether ({ frames := 1, cells := 0, slots := 0, locals := 22 })).room s m ([.ref h0, .int p1] : List Value).toArray below meth c s.heap [] 0 0 (MQ below (zq_Ri P) ([.ref h0, .int p1] : List Value).toArray s 0 0 (fun _ => False)) (F0 m 24 ls []) := by
    intro v2 v3 K4 hK4 ls h hl
    unfold zp_Ord_countTogether_24 at h
    refine lv_iinc (v := v3 + 1) (lv' := [(3, .int (v3 + 1)), (0, .ref h0), (1, .int p1), (2, .int v2)]) hx hb d_Ord_countTogether_24 hl (k := 3) rfl rfl (by decide) rfl (fun ls hl => ?_)
    refine lv_goto (tgt := 4) hx hb d_Ord_countTogether_27 (by decide) ?_
    exact hK4 v2 (v3 + 1) ls h (lv_sub hl [1, 2, 3, 0] rfl)
  have B4 : ∀ (n : Nat) (v2 : Int32) (v3 : Int32), ∀ (ls : Array Slot), zp_Ord_countTogether_4 p1 k_group k_count P n v2 v3 → lv_has ls 4 [(0, .ref h0), (1, .int p1), (2, .int v2), (3, .int v3)] → W p l e (headSpec w_Ord_countTogether ({ frames := 1, cells := 0, slots := 0, locals := 22 })).room s m ([.ref h0, .int p1] : List Value).toArray below meth c s.heap [] 0 0 (MQ below (zq_Ri P) ([.ref h0, .int p1] : List Value).toArray s 0 0 (fun _ => False)) (F0 m 4 ls []) := by
    intro n
    induction n with
    | zero =>
      intro v2 v3 ls h hl
      exact h.elim
    | succ n ih =>
      intro v2 v3 ls h hl
      unfold zp_Ord_countTogether_4 at h
      refine lv_iload_n hx hb d_Ord_countTogether_4 rfl (lv_at hl 3 rfl) ?_
      refine lv_aload_n hx hb d_Ord_countTogether_5 rfl (lv_at hl 0 rfl) ?_
      refine va_get (D := (dC, dI)) (ci := 4) (v := .int k_count) (C := R_Ord) (T := F_Ord) (N := 4) hx hb hts zl_Ord hown hK hP 0 rfl rfl 3 (by decide) (hts _ zw_21) (fun _ h9 => h9) rfl d_Ord_countTogether_6 ?_
      refine lv_icmp_ge (tgt := 30) hx hb d_Ord_countTogether_9 (by decide) (fun c1 => ?_) (fun c1 => ?_)
      · have h := h.1 c1
        refine lv_iload_n hx hb d_Ord_countTogether_30 rfl (lv_at hl 2 rfl) ?_
        exact W.iret (v := v2) hx hb hr (fun t ht hW => ⟨_, rfl, h, ht⟩) (fun q hq => nomatch hq) d_Ord_countTogether_31
      · have h := h.2 c1
        refine lv_aload_n hx hb d_Ord_countTogether_12 rfl (lv_at hl 0 rfl) ?_
        refine lv_iload_n hx hb d_Ord_countTogether_13 rfl (lv_at hl 1 rfl) ?_
        refine lv_iload_n hx hb d_Ord_countTogether_14 rfl (lv_at hl 3 rfl) ?_
        have hPc := hP.sub (ws' := [(h0, .inr (4, [.ref a_customer, .ref a_due, .ref a_group, .int k_count])), (a_group, .inl (cI, 30, .inl k_group))]) [0, 1] rfl
        refine zq_calli (va_runV (As := [.int p1, .int v3]) (rest := []) ⟨hx, hb, hml, hown, hts⟩ (zc_Ord_areTogether l dC dI cI cZ cL h0 a_customer a_due a_group k_group k_count p1 v3 _ h) (cwV 2 hts (zg_V zw_25 zw_26 zw_27 zw_28 zw_29) rfl rfl rfl (by decide +kernel) ⟨Nat.le_of_ble_eq_true rfl, Nat.le_of_ble_eq_true rfl⟩) ⟨zb_p, va_recv hK hPc (ci := 4) (q0 := 0) rfl rfl, zb_preP hPc hK hN⟩ rfl rfl hl.1 rfl (lv_room (Nat.le_of_ble_eq_true rfl)) d_Ord_countTogether_15 ⟨Nat.le_of_ble_eq_true rfl, Nat.le_of_ble_eq_true rfl⟩) (fun r2 h => ?_)
        refine lv_if_eq (tgt := 24) hx hb d_Ord_countTogether_18 (by decide) (fun c3 => ?_) (fun c3 => ?_)
        · have h := h.1 c3
          exact B24 v2 v3 _ ih ls h (lv_sub hl [0, 1, 2, 3] rfl)
        · have h := h.2 c3
          refine lv_iinc (v := v2 + 1) (lv' := [(2, .int (v2 + 1)), (0, .ref h0), (1, .int p1), (3, .int v3)]) hx hb d_Ord_countTogether_21 hl (k := 2) rfl rfl (by decide) rfl (fun ls hl => ?_)
          exact B24 (v2 + 1) v3 _ ih ls h (lv_sub hl [1, 2, 0, 3] rfl)
  unfold zp_Ord_countTogether at h
  refine lv_iconst (v := 0) hx hb d_Ord_countTogether_0 (by decide) ?_
  refine lv_istore_n (lv' := [(2, .int 0), (0, .ref h0), (1, .int p1)]) hx hb d_Ord_countTogether_1 rfl hl (by decide) rfl (fun ls hl => ?_)
  refine lv_iconst (v := 0) hx hb d_Ord_countTogether_2 (by decide) ?_
  refine lv_istore_n (lv' := [(3, .int 0), (2, .int 0), (0, .ref h0), (1, .int p1)]) hx hb d_Ord_countTogether_3 rfl hl (by decide) rfl (fun ls hl => ?_)
  obtain ⟨n, h⟩ := h
  exact B4 n 0 0 ls h (lv_sub hl [2, 3, 1, 0] rfl)
set_option maxHeartbeats 4000000 in
set_option maxRecDepth 100000 in
theorem zc_Out_upTo (l : Launch) (dC : Nat → ClassId) (dI : Nat → Nat → Nat) (cI cZ cL : ClassId) (h0 a_item a_day a_kilos a_total : Nat) (k_item : Nat → Int32) (k_day : Nat → Int32) (k_kilos : Nat → Int32) (k_total : Nat → Int32) (k_count : Int32) (p1 : Int32) (p2 : Int32) (P : Int32 → Prop) (h : zp_Out_upTo p1 p2 k_item k_day k_kilos k_total k_count P) : Met l y_Out_upTo w_Out_upTo ({ frames := 0, cells := 0, slots := 0, locals := 0 }) (va_Pc [.ref h0, .int p1, .int p2] (fun U => va_P (dC, dI) vwCl [(h0, .inr (5, [.ref a_item, .ref a_day, .ref a_kilos, .ref a_total, .int k_count])), (a_item, .inl (cI, 200, .inl k_item)), (a_day, .inl (cI, 200, .inl k_day)), (a_kilos, .inl (cI, 200, .inl k_kilos)), (a_total, .inl (cI, 60, .inl k_total))] U.heap ∧ va_K (dC, dI) vwCl [(cI, .int), (cZ, .boolean), (cL, .long)] U ∧ zn_ok U)) (zq_Ri P) 0 0 (fun _ => False) := by
  refine Met.ofW (cc := b_Out_upTo) (maxL := 5) (ret := (some .int)) (by decide) rfl ?_
  intro p e s m args below meth c s₁ B hml hv
  obtain ⟨rfl, hP, hK, hN⟩ := hv
  have hx := B.exec
  have hb := B.bytes
  have hr := B.returns
  have hts0 := atoms_spec (ws := w_Out_upTo) B.pre
  have hts : ∀ w ∈ zw_T, w.before ([.ref h0, .int p1, .int p2] : List Value).toArray s = true := fun w h => hts0 w (List.mem_cons_of_mem _ h)
  have hown : s.vm.findClass R_Out = some m.cls := findClass_of_methodNamed B.named
  have hlocks := B.notSynchronized
  have hl := lv_entry ([.ref h0, .int p1, .int p2]) (n := 5) (Nat.le_of_ble_eq_true rfl)
  rw [lg_entry_eq]
  generalize (lg_sl ([.ref h0, .int p1, .int p2]) ++ List.replicate (5 - (lg_sl ([.ref h0, .int p1, .int p2])).length) Slot.unset).toArray = ls at hl ⊢
  have hl : lv_has ls 5 [(0, .ref h0), (1, .int p1), (2, .int p2)] := hl
  have B52 : ∀ (v3 : Int32) (v4 : Int32) (K15 : Int32 → Int32 → Prop) (hK15 : ∀ (v3 : Int32) (v4 : Int32), ∀ (ls : Array Slot), K15 v3 v4 → lv_has ls 5 [(0, .ref h0), (1, .int p1), (2, .int p2), (3, .int v3), (4, .int v4)] → W p l e (headSpec w_Out_upTo ({ frames := 0, cells := 0, slots := 0, locals := 0 })).room s m ([.ref h0, .int p1, .int p2] : List Value).toArray below meth c s.heap [] 0 0 (MQ below (zq_Ri P) ([.ref h0, .int p1, .int p2] : List Value).toArray s 0 0 (fun _ => False)) (F0 m 15 ls [])), ∀ (ls : Array Slot), zp_Out_upTo_52 K15 v3 v4 → lv_has ls 5 [(0, .ref h0), (1, .int p1), (2, .int p2), (3, .int v3), (4, .int v4)] → W p l e (headSpec w_Out_upTo ({ frames := 0, cells := 0, slots := 0, locals := 0 })).room s m ([.ref h0, .int p1, .int p2] : List Value).toArray below meth c s.heap [] 0 0 (MQ below (zq_Ri P) ([.ref h0, .int p1, .int p2] : List Value).toArray s 0 0 (fun _ => False)) (F0 m 52 ls []) := by
    intro v3 v4 K15 hK15 ls h hl
    unfold zp_Out_upTo_52 at h
    refine lv_iinc (v := v4 + (-1)) (lv' := [(4, .int (v4 + (-1))), (0, .ref h0), (1, .int p1), (2, .int p2), (3, .int v3)]) hx hb d_Out_upTo_52 hl (k := 4) rfl rfl (by decide) rfl (fun ls hl => ?_)
    refine lv_goto (tgt := 15) hx hb d_Out_upTo_55 (by decide) ?_
    exact hK15 v3 (v4 + (-1)) ls h (lv_sub hl [1, 2, 3, 4, 0] rfl)
  have B15 : ∀ (n : Nat) (v3 : Int32) (v4 : Int32), ∀ (ls : Array Slot), zp_Out_upTo_15 p1 p2 k_item k_day k_kilos P n v3 v4 → lv_has ls 5 [(0, .ref h0), (1, .int p1), (2, .int p2), (3, .int v3), (4, .int v4)] → W p l e (headSpec w_Out_upTo ({ frames := 0, cells := 0, slots := 0, locals := 0 })).room s m ([.ref h0, .int p1, .int p2] : List Value).toArray below meth c s.heap [] 0 0 (MQ below (zq_Ri P) ([.ref h0, .int p1, .int p2] : List Value).toArray s 0 0 (fun _ => False)) (F0 m 15 ls []) := by
    intro n
    induction n with
    | zero =>
      intro v3 v4 ls h hl
      exact h.elim
    | succ n ih =>
      intro v3 v4 ls h hl
      unfold zp_Out_upTo_15 at h
      refine lv_iload hx hb d_Out_upTo_15 (lv_at hl 4 rfl) ?_
      refine lv_if_lt (tgt := 58) hx hb d_Out_upTo_17 (by decide) (fun c1 => ?_) (fun c1 => ?_)
      · have h := h.1 c1
        refine lv_iload_n hx hb d_Out_upTo_58 rfl (lv_at hl 3 rfl) ?_
        exact W.iret (v := v3) hx hb hr (fun t ht hW => ⟨_, rfl, h, ht⟩) (fun q hq => nomatch hq) d_Out_upTo_59
      · have h := h.2 c1
        refine lv_aload_n hx hb d_Out_upTo_20 rfl (lv_at hl 0 rfl) ?_
        refine va_get (D := (dC, dI)) (ci := 5) (v := .ref a_day) (C := R_Out) (T := F_Out) (N := 5) hx hb hts zl_Out hown hK hP 0 rfl rfl 1 (by decide) (hts _ zw_32) (fun _ h9 => h9) rfl d_Out_upTo_21 ?_
        refine lv_iload hx hb d_Out_upTo_24 (lv_at hl 4 rfl) ?_
        refine va_iald hx hb hK hP 2 0 rfl rfl h.1 d_Out_upTo_26 ?_
        have h := h.2
        refine lv_iload_n hx hb d_Out_upTo_27 rfl (lv_at hl 2 rfl) ?_
        refine lv_icmp_le (tgt := 58) hx hb d_Out_upTo_28 (by decide) (fun c2 => ?_) (fun c2 => ?_)
        · have h := h.1 c2
          refine lv_iload_n hx hb d_Out_upTo_58 rfl (lv_at hl 3 rfl) ?_
          exact W.iret (v := v3) hx hb hr (fun t ht hW => ⟨_, rfl, h, ht⟩) (fun q hq => nomatch hq) d_Out_upTo_59
        · have h := h.2 c2
          refine lv_aload_n hx hb d_Out_upTo_31 rfl (lv_at hl 0 rfl) ?_
          refine va_get (D := (dC, dI)) (ci := 5) (v := .ref a_item) (C := R_Out) (T := F_Out) (N := 5) hx hb hts zl_Out hown hK hP 0 rfl rfl 0 (by decide) (hts _ zw_30) (fun _ h9 => h9) rfl d_Out_upTo_32 ?_
          refine lv_iload hx hb d_Out_upTo_35 (lv_at hl 4 rfl) ?_
          refine va_iald hx hb hK hP 1 0 rfl rfl h.1 d_Out_upTo_37 ?_
          have h := h.2
          refine lv_iload_n hx hb d_Out_upTo_38 rfl (lv_at hl 1 rfl) ?_
          refine lv_icmp_ne (tgt := 52) hx hb d_Out_upTo_39 (by decide) (fun c3 => ?_) (fun c3 => ?_)
          · have h := h.1 c3
            exact B52 v3 v4 _ ih ls h (lv_sub hl [0, 1, 2, 3, 4] rfl)
          · have h := h.2 c3
            refine lv_iload_n hx hb d_Out_upTo_42 rfl (lv_at hl 3 rfl) ?_
            refine lv_aload_n hx hb d_Out_upTo_43 rfl (lv_at hl 0 rfl) ?_
            refine va_get (D := (dC, dI)) (ci := 5) (v := .ref a_kilos) (C := R_Out) (T := F_Out) (N := 5) hx hb hts zl_Out hown hK hP 0 rfl rfl 2 (by decide) (hts _ zw_33) (fun _ h9 => h9) rfl d_Out_upTo_44 ?_
            refine lv_iload hx hb d_Out_upTo_47 (lv_at hl 4 rfl) ?_
            refine va_iald hx hb hK hP 3 0 rfl rfl h.1 d_Out_upTo_49 ?_
            have h := h.2
            refine lv_isub hx hb d_Out_upTo_50 ?_
            refine lv_topi (fun y4 ey4 => ?_)
            have h := h y4 ey4
            refine lv_istore_n (lv' := [(3, .int y4), (0, .ref h0), (1, .int p1), (2, .int p2), (4, .int v4)]) hx hb d_Out_upTo_51 rfl hl (by decide) rfl (fun ls hl => ?_)
            exact B52 y4 v4 _ ih ls h (lv_sub hl [1, 2, 3, 0, 4] rfl)
  unfold zp_Out_upTo at h
  refine lv_aload_n hx hb d_Out_upTo_0 rfl (lv_at hl 0 rfl) ?_
  refine va_get (D := (dC, dI)) (ci := 5) (v := .ref a_total) (C := R_Out) (T := F_Out) (N := 5) hx hb hts zl_Out hown hK hP 0 rfl rfl 3 (by decide) (hts _ zw_34) (fun _ h9 => h9) rfl d_Out_upTo_1 ?_
  refine lv_iload_n hx hb d_Out_upTo_4 rfl (lv_at hl 1 rfl) ?_
  refine va_iald hx hb hK hP 4 0 rfl rfl h.1 d_Out_upTo_5 ?_
  have h := h.2
  refine lv_topi (fun y5 ey5 => ?_)
  have h := h y5 ey5
  refine lv_istore_n (lv' := [(3, .int y5), (0, .ref h0), (1, .int p1), (2, .int p2)]) hx hb d_Out_upTo_6 rfl hl (by decide) rfl (fun ls hl => ?_)
  refine lv_aload_n hx hb d_Out_upTo_7 rfl (lv_at hl 1 rfl) ?_
  refine va_get (D := (dC, dI)) (ci := 5) (v := .int k_count) (C := R_Out) (T := F_Out) (N := 5) hx hb hts zl_Out hown hK hP 0 rfl rfl 4 (by decide) (hts _ zw_31) (fun _ h9 => h9) rfl d_Out_upTo_8 ?_
  refine lv_iconst (v := 1) hx hb d_Out_upTo_11 (by decide) ?_
  refine lv_isub hx hb d_Out_upTo_12 ?_
  refine lv_topi (fun y6 ey6 => ?_)
  have h := h y6 ey6
  refine lv_istore (lv' := [(4, .int y6), (3, .int y5), (0, .ref h0), (1, .int p1), (2, .int p2)]) hx hb d_Out_upTo_13 hl (by decide) rfl (fun ls hl => ?_)
  obtain ⟨n, h⟩ := h
  exact B15 n y5 y6 ls h (lv_sub hl [2, 3, 4, 1, 0] rfl)
set_option maxHeartbeats 4000000 in
set_option maxRecDepth 100000 in
theorem zc_Quo_has (l : Launch) (dC : Nat → ClassId) (dI : Nat → Nat → Nat) (cI cZ cL : ClassId) (h0 a_item a_until a_cents a_accepted : Nat) (k_count : Int32) (p1 : Int32) (P : Int32 → Prop) (h : zp_Quo_has p1 k_count P) : Met l y_Quo_has w_Quo_has ({ frames := 1, cells := 0, slots := 0, locals := 22 }) (va_Pc [.ref h0, .int p1] (fun U => va_P (dC, dI) vwCl [(h0, .inr (6, [.ref a_item, .ref a_until, .ref a_cents, .ref a_accepted, .int k_count]))] U.heap ∧ va_K (dC, dI) vwCl [(cI, .int), (cZ, .boolean), (cL, .long)] U ∧ zn_ok U)) (zq_Ri P) 0 0 (fun _ => False) := by
  refine Met.ofW (cc := b_Quo_has) (maxL := 2) (ret := (some .boolean)) (by decide) rfl ?_
  intro p e s m args below meth c s₁ B hml hv
  obtain ⟨rfl, hP, hK, hN⟩ := hv
  have hx := B.exec
  have hb := B.bytes
  have hr := B.returns
  have hts0 := atoms_spec (ws := w_Quo_has) B.pre
  have hts : ∀ w ∈ zw_T, w.before ([.ref h0, .int p1] : List Value).toArray s = true := fun w h => hts0 w (List.mem_cons_of_mem _ h)
  have hown : s.vm.findClass R_Quo = some m.cls := findClass_of_methodNamed B.named
  have hlocks := B.notSynchronized
  have hl := lv_entry ([.ref h0, .int p1]) (n := 2) (Nat.le_of_ble_eq_true rfl)
  rw [lg_entry_eq]
  generalize (lg_sl ([.ref h0, .int p1]) ++ List.replicate (2 - (lg_sl ([.ref h0, .int p1])).length) Slot.unset).toArray = ls at hl ⊢
  have hl : lv_has ls 2 [(0, .ref h0), (1, .int p1)] := hl
  unfold zp_Quo_has at h
  refine lv_iload_n hx hb d_Quo_has_0 rfl (lv_at hl 1 rfl) ?_
  refine lv_iconst (v := 0) hx hb d_Quo_has_1 (by decide) ?_
  refine lv_aload_n hx hb d_Quo_has_2 rfl (lv_at hl 0 rfl) ?_
  refine va_get (D := (dC, dI)) (ci := 6) (v := .int k_count) (C := R_Quo) (T := F_Quo) (N := 5) hx hb hts zl_Quo hown hK hP 0 rfl rfl 4 (by decide) (hts _ zw_35) (fun _ h9 => h9) rfl d_Quo_has_3 ?_
  refine lv_iconst (v := 1) hx hb d_Quo_has_6 (by decide) ?_
  refine lv_isub hx hb d_Quo_has_7 ?_
  have hPc := hP.sub (ws' := []) [] rfl
  refine zq_calli (va_runSN (As := [.int p1, .int 0, .int (k_count - 1)]) (rest := []) ⟨hx, hb, hml, hown, hts⟩ (zc_Or_isWithin l dC dI cI cZ cL p1 0 (k_count - 1) _ h) ⟨va_cnB (host := "OrderRows") 3 hts (zg_N zw_10) rfl rfl rfl hN.2.2.2.1 (hts _ zw_11) (by decide +kernel) ⟨Nat.le_of_ble_eq_true rfl, Nat.le_of_ble_eq_true rfl⟩, hts _ zw_12, trivial⟩ ⟨zb_p, zb_preP hPc hK hN⟩ rfl rfl hl.1 rfl (lv_room (Nat.le_of_ble_eq_true rfl)) d_Quo_has_8 ⟨Nat.le_of_ble_eq_true rfl, Nat.le_of_ble_eq_true rfl⟩) (fun r1 h => ?_)
  exact W.zret (v := r1) (ty := .boolean) hx hb hr h.1 (fun t ht hW => ⟨_, rfl, h.2, ht⟩) (fun q hq => nomatch hq) d_Quo_has_11
set_option maxHeartbeats 4000000 in
set_option maxRecDepth 100000 in
theorem zc_Quo_look (l : Launch) (dC : Nat → ClassId) (dI : Nat → Nat → Nat) (cI cZ cL : ClassId) (h0 a_item a_until a_cents a_accepted : Nat) (k_item : Nat → Int32) (k_until : Nat → Int32) (k_accepted : Nat → Int32) (k_count : Int32) (p1 : Int32) (p2 : Int32) (P : Int32 → Prop) (h : zp_Quo_look p1 p2 k_item k_until k_accepted P) : Met l y_Quo_look w_Quo_look ({ frames := 0, cells := 0, slots := 0, locals := 0 }) (va_Pc [.ref h0, .int p1, .int p2] (fun U => va_P (dC, dI) vwCl [(h0, .inr (6, [.ref a_item, .ref a_until, .ref a_cents, .ref a_accepted, .int k_count])), (a_item, .inl (cI, 60, .inl k_item)), (a_until, .inl (cI, 60, .inl k_until)), (a_accepted, .inl (cZ, 60, .inl k_accepted))] U.heap ∧ va_K (dC, dI) vwCl [(cI, .int), (cZ, .boolean), (cL, .long)] U ∧ zn_ok U)) (zq_Ri P) 0 0 (fun _ => False) := by
  refine Met.ofW (cc := b_Quo_look) (maxL := 3) (ret := (some .int)) (by decide) rfl ?_
  intro p e s m args below meth c s₁ B hml hv
  obtain ⟨rfl, hP, hK, hN⟩ := hv
  have hx := B.exec
  have hb := B.bytes
  have hr := B.returns
  have hts0 := atoms_spec (ws := w_Quo_look) B.pre
  have hts : ∀ w ∈ zw_T, w.before ([.ref h0, .int p1, .int p2] : List Value).toArray s = true := fun w h => hts0 w (List.mem_cons_of_mem _ h)
  have hown : s.vm.findClass R_Quo = some m.cls := findClass_of_methodNamed B.named
  have hlocks := B.notSynchronized
  have hl := lv_entry ([.ref h0, .int p1, .int p2]) (n := 3) (Nat.le_of_ble_eq_true rfl)
  rw [lg_entry_eq]
  generalize (lg_sl ([.ref h0, .int p1, .int p2]) ++ List.replicate (3 - (lg_sl ([.ref h0, .int p1, .int p2])).length) Slot.unset).toArray = ls at hl ⊢
  have hl : lv_has ls 3 [(0, .ref h0), (1, .int p1), (2, .int p2)] := hl
  unfold zp_Quo_look at h
  refine lv_iload_n hx hb d_Quo_look_0 rfl (lv_at hl 2 rfl) ?_
  by_cases c1_0 : p2 = 0
  · have h := h.1 c1_0
    refine lv_lookup (tgt := 28) (off := 27) hx hb d_Quo_look_1 (by decide) (by rw [c1_0]; decide) (by decide) ?_
    refine lv_aload_n hx hb d_Quo_look_28 rfl (lv_at hl 0 rfl) ?_
    refine va_get (D := (dC, dI)) (ci := 6) (v := .ref a_item) (C := R_Quo) (T := F_Quo) (N := 5) hx hb hts zl_Quo hown hK hP 0 rfl rfl 0 (by decide) (hts _ zw_36) (fun _ h9 => h9) rfl d_Quo_look_29 ?_
    refine lv_iload_n hx hb d_Quo_look_32 rfl (lv_at hl 1 rfl) ?_
    refine va_iald hx hb hK hP 1 0 rfl rfl h.1 d_Quo_look_33 ?_
    have h := h.2
    exact W.iret (v := k_item p1.toNatClampNeg) hx hb hr (fun t ht hW => ⟨_, rfl, h, ht⟩) (fun q hq => nomatch hq) d_Quo_look_34
  by_cases c1_1 : p2 = 1
  · have h := h.2.1 c1_1
    refine lv_lookup (tgt := 35) (off := 34) hx hb d_Quo_look_1 (by decide) (by rw [c1_1]; decide) (by decide) ?_
    refine lv_aload_n hx hb d_Quo_look_35 rfl (lv_at hl 0 rfl) ?_
    refine va_get (D := (dC, dI)) (ci := 6) (v := .ref a_until) (C := R_Quo) (T := F_Quo) (N := 5) hx hb hts zl_Quo hown hK hP 0 rfl rfl 1 (by decide) (hts _ zw_37) (fun _ h9 => h9) rfl d_Quo_look_36 ?_
    refine lv_iload_n hx hb d_Quo_look_39 rfl (lv_at hl 1 rfl) ?_
    refine va_iald hx hb hK hP 2 0 rfl rfl h.1 d_Quo_look_40 ?_
    have h := h.2
    exact W.iret (v := k_until p1.toNatClampNeg) hx hb hr (fun t ht hW => ⟨_, rfl, h, ht⟩) (fun q hq => nomatch hq) d_Quo_look_41
  have h := h.2.2 c1_0 c1_1
  refine lv_lookup (tgt := 42) (off := 41) hx hb d_Quo_look_1 (by decide) (by rw [lv_osw (k := 0) c1_0 (by decide)]; rw [lv_osw (k := 1) c1_1 (by decide)]; rfl) (by decide) ?_
  refine lv_aload_n hx hb d_Quo_look_42 rfl (lv_at hl 0 rfl) ?_
  refine va_get (D := (dC, dI)) (ci := 6) (v := .ref a_accepted) (C := R_Quo) (T := F_Quo) (N := 5) hx hb hts zl_Quo hown hK hP 0 rfl rfl 3 (by decide) (hts _ zw_39) (fun _ h9 => h9) rfl d_Quo_look_43 ?_
  refine lv_iload_n hx hb d_Quo_look_46 rfl (lv_at hl 1 rfl) ?_
  refine va_zald hx hb hK hP 3 1 rfl rfl h.1 d_Quo_look_47 ?_
  have h := h.2
  refine lv_if_eq (tgt := 55) hx hb d_Quo_look_48 (by decide) (fun c2 => ?_) (fun c2 => ?_)
  · have h := h.1 c2
    refine lv_iconst (v := 0) hx hb d_Quo_look_55 (by decide) ?_
    exact W.iret (v := 0) hx hb hr (fun t ht hW => ⟨_, rfl, h, ht⟩) (fun q hq => nomatch hq) d_Quo_look_56
  · have h := h.2 c2
    refine lv_iconst (v := 1) hx hb d_Quo_look_51 (by decide) ?_
    refine lv_goto (tgt := 56) hx hb d_Quo_look_52 (by decide) ?_
    exact W.iret (v := 1) hx hb hr (fun t ht hW => ⟨_, rfl, h, ht⟩) (fun q hq => nomatch hq) d_Quo_look_56
set_option maxHeartbeats 4000000 in
set_option maxRecDepth 100000 in
theorem zc_Rat_centsFor (l : Launch) (dC : Nat → ClassId) (dI : Nat → Nat → Nat) (cI cZ cL : ClassId) (h0 : Nat) (k_base : Int32) (k_perThousand : Int32) (k_perWidth : Int32) (p1 : Int32) (p2 : Int32) (P : Int64 → Prop) (h : zp_Rat_centsFor p1 p2 k_base k_perThousand k_perWidth P) : Met l y_Rat_centsFor w_Rat_centsFor ({ frames := 0, cells := 0, slots := 0, locals := 0 }) (va_Pc [.ref h0, .int p1, .int p2] (fun U => va_P (dC, dI) vwCl [(h0, .inr (7, [.int k_base, .int k_perThousand, .int k_perWidth]))] U.heap ∧ va_K (dC, dI) vwCl [(cI, .int), (cZ, .boolean), (cL, .long)] U ∧ zn_ok U)) (zq_Rl P) 0 0 (fun _ => False) := by
  refine Met.ofW (cc := b_Rat_centsFor) (maxL := 5) (ret := (some .long)) (by decide) rfl ?_
  intro p e s m args below meth c s₁ B hml hv
  obtain ⟨rfl, hP, hK, hN⟩ := hv
  have hx := B.exec
  have hb := B.bytes
  have hr := B.returns
  have hts0 := atoms_spec (ws := w_Rat_centsFor) B.pre
  have hts : ∀ w ∈ zw_T, w.before ([.ref h0, .int p1, .int p2] : List Value).toArray s = true := fun w h => hts0 w (List.mem_cons_of_mem _ h)
  have hown : s.vm.findClass R_Rat = some m.cls := findClass_of_methodNamed B.named
  have hlocks := B.notSynchronized
  have hl := lv_entry ([.ref h0, .int p1, .int p2]) (n := 5) (Nat.le_of_ble_eq_true rfl)
  rw [lg_entry_eq]
  generalize (lg_sl ([.ref h0, .int p1, .int p2]) ++ List.replicate (5 - (lg_sl ([.ref h0, .int p1, .int p2])).length) Slot.unset).toArray = ls at hl ⊢
  have hl : lv_has ls 5 [(0, .ref h0), (1, .int p1), (2, .int p2)] := hl
  unfold zp_Rat_centsFor at h
  refine lv_iload_n hx hb d_Rat_centsFor_0 rfl (lv_at hl 1 rfl) ?_
  refine lv_i2l (v := p1.toInt64) hx hb d_Rat_centsFor_1 rfl ?_
  refine lv_ldc2 (v := 999) hx hb hown (hts _ zw_43) d_Rat_centsFor_2 ?_
  refine lv_ladd hx hb d_Rat_centsFor_5 ?_
  refine lv_ldc2 (v := 1000) hx hb hown (hts _ zw_44) d_Rat_centsFor_6 ?_
  refine lv_ldiv hx hb d_Rat_centsFor_9 h.1 ?_
  have h := h.2
  refine lv_topl (fun y1 ey1 => ?_)
  have h := h y1 ey1
  refine lv_lstore_n (lv' := [(3, .long y1), (0, .ref h0), (1, .int p1), (2, .int p2)]) hx hb d_Rat_centsFor_10 rfl hl (by decide) rfl (fun ls hl => ?_)
  refine lv_aload_n hx hb d_Rat_centsFor_11 rfl (lv_at hl 1 rfl) ?_
  refine va_get (D := (dC, dI)) (ci := 7) (v := .int k_base) (C := R_Rat) (T := F_Rat) (N := 3) hx hb hts zl_Rat hown hK hP 0 rfl rfl 0 (by decide) (hts _ zw_40) (fun _ h9 => h9) rfl d_Rat_centsFor_12 ?_
  refine lv_i2l (v := k_base.toInt64) hx hb d_Rat_centsFor_15 rfl ?_
  refine lv_lload_n hx hb d_Rat_centsFor_16 rfl (lv_at hl 0 rfl) ?_
  refine lv_aload_n hx hb d_Rat_centsFor_17 rfl (lv_at hl 1 rfl) ?_
  refine va_get (D := (dC, dI)) (ci := 7) (v := .int k_perThousand) (C := R_Rat) (T := F_Rat) (N := 3) hx hb hts zl_Rat hown hK hP 0 rfl rfl 1 (by decide) (hts _ zw_41) (fun _ h9 => h9) rfl d_Rat_centsFor_18 ?_
  refine lv_i2l (v := k_perThousand.toInt64) hx hb d_Rat_centsFor_21 rfl ?_
  refine lv_lmul hx hb d_Rat_centsFor_22 ?_
  refine lv_ladd hx hb d_Rat_centsFor_23 ?_
  refine lv_iload_n hx hb d_Rat_centsFor_24 rfl (lv_at hl 3 rfl) ?_
  refine lv_i2l (v := p2.toInt64) hx hb d_Rat_centsFor_25 rfl ?_
  refine lv_aload_n hx hb d_Rat_centsFor_26 rfl (lv_at hl 1 rfl) ?_
  refine va_get (D := (dC, dI)) (ci := 7) (v := .int k_perWidth) (C := R_Rat) (T := F_Rat) (N := 3) hx hb hts zl_Rat hown hK hP 0 rfl rfl 2 (by decide) (hts _ zw_42) (fun _ h9 => h9) rfl d_Rat_centsFor_27 ?_
  refine lv_i2l (v := k_perWidth.toInt64) hx hb d_Rat_centsFor_30 rfl ?_
  refine lv_lmul hx hb d_Rat_centsFor_31 ?_
  refine lv_ladd hx hb d_Rat_centsFor_32 ?_
  exact W.lret (v := (k_base.toInt64 + (y1 * k_perThousand.toInt64)) + (p2.toInt64 * k_perWidth.toInt64)) hx hb hr (fun t ht hW => ⟨_, rfl, h, ht⟩) (fun q hq => nomatch hq) d_Rat_centsFor_33
set_option maxHeartbeats 4000000 in
set_option maxRecDepth 100000 in
theorem zc_Or_needIndex (l : Launch) (dC : Nat → ClassId) (dI : Nat → Nat → Nat) (cI cZ cL : ClassId) (p1 : Int32) (hp : ¬ p1 = 0) : Met l y_Or_needIndex w_Or_needIndex ({ frames := 0, cells := 0, slots := 0, locals := 0 }) (va_Pc [.int p1] (fun U => va_P (dC, dI) vwCl [] U.heap ∧ va_K (dC, dI) vwCl [(cI, .int), (cZ, .boolean), (cL, .long)] U ∧ zn_ok U)) (zq_Rv True) 0 0 (fun _ => False) := by
  refine Met.ofW (cc := b_Or_needIndex) (maxL := 1) (ret := none) (by decide) rfl ?_
  intro p e s m args below meth c s₁ B hml hv
  obtain ⟨rfl, hP, hK, hN⟩ := hv
  have hx := B.exec
  have hb := B.bytes
  have hr := B.returns
  have hlocks := B.notSynchronized
  have hl := lv_entry ([.int p1]) (n := 1) (Nat.le_of_ble_eq_true rfl)
  rw [lg_entry_eq]
  generalize (lg_sl ([.int p1]) ++ List.replicate (1 - (lg_sl ([.int p1])).length) Slot.unset).toArray = ls at hl ⊢
  have hl : lv_has ls 1 [(0, .int p1)] := hl
  refine lv_iload_n hx hb d_Or_needIndex_0 rfl (lv_at hl 0 rfl) ?_
  refine lv_if_ne (tgt := 14) hx hb d_Or_needIndex_1 (by decide) (fun c1 => ?_) (fun c1 => absurd c1 hp)
  exact W.vret hx hb hr (fun t ht hW => ⟨rfl, trivial, ht⟩) (fun q hq => nomatch hq) d_Or_needIndex_14
set_option maxRecDepth 100000 in
theorem zu_Or_needIndex : ∀ w ∈ Bundle.ownAtoms R_Or 250 "java/lang/IndexOutOfBoundsException" ["java/lang/RuntimeException", "java/lang/Exception"], w ∈ zw_T ∨ w ∈ [zt_h1, zt_h2, zt_h3, zt_h4] ∨ w ∈ zt_cs := by decide +kernel
set_option maxHeartbeats 4000000 in
set_option maxRecDepth 100000 in
theorem zn_Or_needIndex (l : Launch) (hlt : l.stackTraces = false) (dC : Nat → ClassId) (dI : Nat → Nat → Nat) (cI cZ cL : ClassId) (p1 : Int32) (hp : p1 = 0) (X : String → Prop) (h : X "java/lang/IndexOutOfBoundsException") : zx_Met l y_Or_needIndex w_Or_needIndex ({ frames := 6, cells := 1, slots := 6, locals := 82 }) (va_Pc [.int p1] (fun U => va_P (dC, dI) vwCl [] U.heap ∧ va_K (dC, dI) vwCl [(cI, .int), (cZ, .boolean), (cL, .long)] U ∧ zn_ok U ∧ zt_ok U)) (fun _ _ _ _ => False) X (fun _ => False) := by
  refine zx_ofW (cc := b_Or_needIndex) (maxL := 1) (ret := none) (by decide) rfl ?_
  intro p e s m args below meth c s₁ B hml hnox hv
  obtain ⟨rfl, hP, hK, hN, hZ⟩ := hv
  have hx := B.exec
  have hb := B.bytes
  have hlocks := B.notSynchronized
  have hts0 := atoms_spec (ws := w_Or_needIndex) B.pre
  have hts : ∀ w ∈ zw_T, w.before ([.int p1] : List Value).toArray s = true := fun w h => hts0 w (List.mem_cons_of_mem _ h)
  have hown : s.vm.findClass R_Or = some m.cls := findClass_of_methodNamed B.named
  have hl := lv_entry ([.int p1]) (n := 1) (Nat.le_of_ble_eq_true rfl)
  rw [lg_entry_eq]
  generalize (lg_sl ([.int p1]) ++ List.replicate (1 - (lg_sl ([.int p1])).length) Slot.unset).toArray = ls at hl ⊢
  have hl : lv_has ls 1 [(0, .int p1)] := hl
  obtain ⟨sa, hstr⟩ := hZ.2.1
  refine lv_iload_n hx hb d_Or_needIndex_0 rfl (lv_at hl 0 rfl) ?_
  refine lv_if_ne (tgt := 14) hx hb d_Or_needIndex_1 (by decide) (fun c1 => absurd hp c1) (fun c1 => ?_)
  exact zx_throw (names := ["java/lang/RuntimeException", "java/lang/Exception"]) hx hb hlt hown (by decide +kernel) (by decide +kernel) (hts _ zw_45) (hts _ zw_46) hstr (zt_all hts zu_Or_needIndex hZ.1) (by rw [hml]; exact hl.1) d_Or_needIndex_4 d_Or_needIndex_7 d_Or_needIndex_8 d_Or_needIndex_10 d_Or_needIndex_13 hnox (Nat.le_of_ble_eq_true rfl) (Nat.le_of_ble_eq_true rfl) (Nat.le_of_ble_eq_true rfl) (Nat.le_of_ble_eq_true rfl) hlocks h
set_option maxHeartbeats 4000000 in
set_option maxRecDepth 100000 in
theorem zc_Or_isDayToCome (l : Launch) (dC : Nat → ClassId) (dI : Nat → Nat → Nat) (cI cZ cL : ClassId) (h0 a_orders a_items a_changes a_outputs a_rates a_quotes a_accounts a_calendar : Nat) (k_today : Int32) (p1 : Int32) (P : Int32 → Prop) (h : zp_Or_isDayToCome p1 k_today P) : Met l y_Or_isDayToCome w_Or_isDayToCome ({ frames := 1, cells := 0, slots := 0, locals := 22 }) (va_Pc [.ref h0, .int p1] (fun U => va_P (dC, dI) vwCl [(h0, .inr (8, [.ref a_orders, .ref a_items, .ref a_changes, .ref a_outputs, .ref a_rates, .ref a_quotes, .ref a_accounts, .ref a_calendar, .int k_today]))] U.heap ∧ va_K (dC, dI) vwCl [(cI, .int), (cZ, .boolean), (cL, .long)] U ∧ zn_ok U)) (zq_Ri P) 0 0 (fun _ => False) := by
  refine Met.ofW (cc := b_Or_isDayToCome) (maxL := 2) (ret := (some .boolean)) (by decide) rfl ?_
  intro p e s m args below meth c s₁ B hml hv
  obtain ⟨rfl, hP, hK, hN⟩ := hv
  have hx := B.exec
  have hb := B.bytes
  have hr := B.returns
  have hts0 := atoms_spec (ws := w_Or_isDayToCome) B.pre
  have hts : ∀ w ∈ zw_T, w.before ([.ref h0, .int p1] : List Value).toArray s = true := fun w h => hts0 w (List.mem_cons_of_mem _ h)
  have hown : s.vm.findClass R_Or = some m.cls := findClass_of_methodNamed B.named
  have hlocks := B.notSynchronized
  have hl := lv_entry ([.ref h0, .int p1]) (n := 2) (Nat.le_of_ble_eq_true rfl)
  rw [lg_entry_eq]
  generalize (lg_sl ([.ref h0, .int p1]) ++ List.replicate (2 - (lg_sl ([.ref h0, .int p1])).length) Slot.unset).toArray = ls at hl ⊢
  have hl : lv_has ls 2 [(0, .ref h0), (1, .int p1)] := hl
  unfold zp_Or_isDayToCome at h
  refine lv_iload_n hx hb d_Or_isDayToCome_0 rfl (lv_at hl 1 rfl) ?_
  refine lv_aload_n hx hb d_Or_isDayToCome_1 rfl (lv_at hl 0 rfl) ?_
  refine va_get (D := (dC, dI)) (ci := 8) (v := .int k_today) (C := R_Or) (T := F_Or) (N := 9) hx hb hts zl_Or hown hK hP 0 rfl rfl 8 (by decide) (hts _ zw_47) (fun _ h9 => h9) rfl d_Or_isDayToCome_2 ?_
  refine lv_sipush (v := 9999) hx hb d_Or_isDayToCome_5 (by decide) ?_
  have hPc := hP.sub (ws' := []) [] rfl
  refine zq_calli (va_runS (As := [.int p1, .int k_today, .int 9999]) (rest := []) ⟨hx, hb, hml, hown, hts⟩ (zc_Or_isWithin l dC dI cI cZ cL p1 k_today 9999 _ h) (cwS 3 hts (zg_S zw_48 zw_12 zw_11 zw_10) rfl rfl rfl (by decide +kernel) ⟨Nat.le_of_ble_eq_true rfl, Nat.le_of_ble_eq_true rfl⟩) ⟨zb_p, zb_preP hPc hK hN⟩ rfl rfl hl.1 rfl (lv_room (Nat.le_of_ble_eq_true rfl)) d_Or_isDayToCome_8 ⟨Nat.le_of_ble_eq_true rfl, Nat.le_of_ble_eq_true rfl⟩) (fun r1 h => ?_)
  exact W.zret (v := r1) (ty := .boolean) hx hb hr h.1 (fun t ht hW => ⟨_, rfl, h.2, ht⟩) (fun q hq => nomatch hq) d_Or_isDayToCome_11
set_option maxHeartbeats 4000000 in
set_option maxRecDepth 100000 in
theorem zc_Or_needRange (l : Launch) (dC : Nat → ClassId) (dI : Nat → Nat → Nat) (cI cZ cL : ClassId) (p1 : Int32) (hp : ¬ p1 = 0) : Met l y_Or_needRange w_Or_needRange ({ frames := 0, cells := 0, slots := 0, locals := 0 }) (va_Pc [.int p1] (fun U => va_P (dC, dI) vwCl [] U.heap ∧ va_K (dC, dI) vwCl [(cI, .int), (cZ, .boolean), (cL, .long)] U ∧ zn_ok U)) (zq_Rv True) 0 0 (fun _ => False) := by
  refine Met.ofW (cc := b_Or_needRange) (maxL := 1) (ret := none) (by decide) rfl ?_
  intro p e s m args below meth c s₁ B hml hv
  obtain ⟨rfl, hP, hK, hN⟩ := hv
  have hx := B.exec
  have hb := B.bytes
  have hr := B.returns
  have hlocks := B.notSynchronized
  have hl := lv_entry ([.int p1]) (n := 1) (Nat.le_of_ble_eq_true rfl)
  rw [lg_entry_eq]
  generalize (lg_sl ([.int p1]) ++ List.replicate (1 - (lg_sl ([.int p1])).length) Slot.unset).toArray = ls at hl ⊢
  have hl : lv_has ls 1 [(0, .int p1)] := hl
  refine lv_iload_n hx hb d_Or_needRange_0 rfl (lv_at hl 0 rfl) ?_
  refine lv_if_ne (tgt := 15) hx hb d_Or_needRange_1 (by decide) (fun c1 => ?_) (fun c1 => absurd c1 hp)
  exact W.vret hx hb hr (fun t ht hW => ⟨rfl, trivial, ht⟩) (fun q hq => nomatch hq) d_Or_needRange_15
set_option maxRecDepth 100000 in
theorem zu_Or_needRange : ∀ w ∈ Bundle.ownAtoms R_Or 262 "java/lang/IllegalArgumentException" ["java/lang/RuntimeException", "java/lang/Exception"], w ∈ zw_T ∨ w ∈ [zt_h1, zt_h2, zt_h3, zt_h4] ∨ w ∈ zt_cs := by decide +kernel
set_option maxHeartbeats 4000000 in
set_option maxRecDepth 100000 in
theorem zn_Or_needRange (l : Launch) (hlt : l.stackTraces = false) (dC : Nat → ClassId) (dI : Nat → Nat → Nat) (cI cZ cL : ClassId) (p1 : Int32) (hp : p1 = 0) (X : String → Prop) (h : X "java/lang/IllegalArgumentException") : zx_Met l y_Or_needRange w_Or_needRange ({ frames := 6, cells := 1, slots := 6, locals := 82 }) (va_Pc [.int p1] (fun U => va_P (dC, dI) vwCl [] U.heap ∧ va_K (dC, dI) vwCl [(cI, .int), (cZ, .boolean), (cL, .long)] U ∧ zn_ok U ∧ zt_ok U)) (fun _ _ _ _ => False) X (fun _ => False) := by
  refine zx_ofW (cc := b_Or_needRange) (maxL := 1) (ret := none) (by decide) rfl ?_
  intro p e s m args below meth c s₁ B hml hnox hv
  obtain ⟨rfl, hP, hK, hN, hZ⟩ := hv
  have hx := B.exec
  have hb := B.bytes
  have hlocks := B.notSynchronized
  have hts0 := atoms_spec (ws := w_Or_needRange) B.pre
  have hts : ∀ w ∈ zw_T, w.before ([.int p1] : List Value).toArray s = true := fun w h => hts0 w (List.mem_cons_of_mem _ h)
  have hown : s.vm.findClass R_Or = some m.cls := findClass_of_methodNamed B.named
  have hl := lv_entry ([.int p1]) (n := 1) (Nat.le_of_ble_eq_true rfl)
  rw [lg_entry_eq]
  generalize (lg_sl ([.int p1]) ++ List.replicate (1 - (lg_sl ([.int p1])).length) Slot.unset).toArray = ls at hl ⊢
  have hl : lv_has ls 1 [(0, .int p1)] := hl
  obtain ⟨sa, hstr⟩ := hZ.2.2.1
  refine lv_iload_n hx hb d_Or_needRange_0 rfl (lv_at hl 0 rfl) ?_
  refine lv_if_ne (tgt := 15) hx hb d_Or_needRange_1 (by decide) (fun c1 => absurd hp c1) (fun c1 => ?_)
  exact zx_throwW (names := ["java/lang/RuntimeException", "java/lang/Exception"]) hx hb hlt hown (by decide +kernel) (by decide +kernel) (hts _ zw_49) (hts _ zw_50) hstr (zt_all hts zu_Or_needRange hZ.1) (by rw [hml]; exact hl.1) d_Or_needRange_4 d_Or_needRange_7 d_Or_needRange_8 d_Or_needRange_11 d_Or_needRange_14 hnox (Nat.le_of_ble_eq_true rfl) (Nat.le_of_ble_eq_true rfl) (Nat.le_of_ble_eq_true rfl) (Nat.le_of_ble_eq_true rfl) hlocks h
set_option maxHeartbeats 4000000 in
set_option maxRecDepth 100000 in
theorem zc_Or_needMeaning (l : Launch) (dC : Nat → ClassId) (dI : Nat → Nat → Nat) (cI cZ cL : ClassId) (p1 : Int32) (hp : ¬ p1 = 0) : Met l y_Or_needMeaning w_Or_needMeaning ({ frames := 0, cells := 0, slots := 0, locals := 0 }) (va_Pc [.int p1] (fun U => va_P (dC, dI) vwCl [] U.heap ∧ va_K (dC, dI) vwCl [(cI, .int), (cZ, .boolean), (cL, .long)] U ∧ zn_ok U)) (zq_Rv True) 0 0 (fun _ => False) := by
  refine Met.ofW (cc := b_Or_needMeaning) (maxL := 1) (ret := none) (by decide) rfl ?_
  intro p e s m args below meth c s₁ B hml hv
  obtain ⟨rfl, hP, hK, hN⟩ := hv
  have hx := B.exec
  have hb := B.bytes
  have hr := B.returns
  have hlocks := B.notSynchronized
  have hl := lv_entry ([.int p1]) (n := 1) (Nat.le_of_ble_eq_true rfl)
  rw [lg_entry_eq]
  generalize (lg_sl ([.int p1]) ++ List.replicate (1 - (lg_sl ([.int p1])).length) Slot.unset).toArray = ls at hl ⊢
  have hl : lv_has ls 1 [(0, .int p1)] := hl
  refine lv_iload_n hx hb d_Or_needMeaning_0 rfl (lv_at hl 0 rfl) ?_
  refine lv_if_ne (tgt := 15) hx hb d_Or_needMeaning_1 (by decide) (fun c1 => ?_) (fun c1 => absurd c1 hp)
  exact W.vret hx hb hr (fun t ht hW => ⟨rfl, trivial, ht⟩) (fun q hq => nomatch hq) d_Or_needMeaning_15
set_option maxRecDepth 100000 in
theorem zu_Or_needMeaning : ∀ w ∈ Bundle.ownAtoms R_Or 267 "java/lang/UnsupportedOperationException" ["java/lang/RuntimeException", "java/lang/Exception"], w ∈ zw_T ∨ w ∈ [zt_h1, zt_h2, zt_h3, zt_h4] ∨ w ∈ zt_cs := by decide +kernel
set_option maxHeartbeats 4000000 in
set_option maxRecDepth 100000 in
theorem zn_Or_needMeaning (l : Launch) (hlt : l.stackTraces = false) (dC : Nat → ClassId) (dI : Nat → Nat → Nat) (cI cZ cL : ClassId) (p1 : Int32) (hp : p1 = 0) (X : String → Prop) (h : X "java/lang/UnsupportedOperationException") : zx_Met l y_Or_needMeaning w_Or_needMeaning ({ frames := 6, cells := 1, slots := 6, locals := 82 }) (va_Pc [.int p1] (fun U => va_P (dC, dI) vwCl [] U.heap ∧ va_K (dC, dI) vwCl [(cI, .int), (cZ, .boolean), (cL, .long)] U ∧ zn_ok U ∧ zt_ok U)) (fun _ _ _ _ => False) X (fun _ => False) := by
  refine zx_ofW (cc := b_Or_needMeaning) (maxL := 1) (ret := none) (by decide) rfl ?_
  intro p e s m args below meth c s₁ B hml hnox hv
  obtain ⟨rfl, hP, hK, hN, hZ⟩ := hv
  have hx := B.exec
  have hb := B.bytes
  have hlocks := B.notSynchronized
  have hts0 := atoms_spec (ws := w_Or_needMeaning) B.pre
  have hts : ∀ w ∈ zw_T, w.before ([.int p1] : List Value).toArray s = true := fun w h => hts0 w (List.mem_cons_of_mem _ h)
  have hown : s.vm.findClass R_Or = some m.cls := findClass_of_methodNamed B.named
  have hl := lv_entry ([.int p1]) (n := 1) (Nat.le_of_ble_eq_true rfl)
  rw [lg_entry_eq]
  generalize (lg_sl ([.int p1]) ++ List.replicate (1 - (lg_sl ([.int p1])).length) Slot.unset).toArray = ls at hl ⊢
  have hl : lv_has ls 1 [(0, .int p1)] := hl
  obtain ⟨sa, hstr⟩ := hZ.2.2.2.1
  refine lv_iload_n hx hb d_Or_needMeaning_0 rfl (lv_at hl 0 rfl) ?_
  refine lv_if_ne (tgt := 15) hx hb d_Or_needMeaning_1 (by decide) (fun c1 => absurd hp c1) (fun c1 => ?_)
  exact zx_throwW (names := ["java/lang/RuntimeException", "java/lang/Exception"]) hx hb hlt hown (by decide +kernel) (by decide +kernel) (hts _ zw_51) (hts _ zw_52) hstr (zt_all hts zu_Or_needMeaning hZ.1) (by rw [hml]; exact hl.1) d_Or_needMeaning_4 d_Or_needMeaning_7 d_Or_needMeaning_8 d_Or_needMeaning_11 d_Or_needMeaning_14 hnox (Nat.le_of_ble_eq_true rfl) (Nat.le_of_ble_eq_true rfl) (Nat.le_of_ble_eq_true rfl) (Nat.le_of_ble_eq_true rfl) hlocks h
set_option maxHeartbeats 4000000 in
set_option maxRecDepth 100000 in
theorem zc_Or_isSize (l : Launch) (dC : Nat → ClassId) (dI : Nat → Nat → Nat) (cI cZ cL : ClassId) (p1 : Int32) (P : Int32 → Prop) (h : zp_Or_isSize p1 P) : Met l y_Or_isSize w_Or_isSize ({ frames := 1, cells := 0, slots := 0, locals := 22 }) (va_Pc [.int p1] (fun U => va_P (dC, dI) vwCl [] U.heap ∧ va_K (dC, dI) vwCl [(cI, .int), (cZ, .boolean), (cL, .long)] U ∧ zn_ok U)) (zq_Ri P) 0 0 (fun _ => False) := by
  refine Met.ofW (cc := b_Or_isSize) (maxL := 1) (ret := (some .boolean)) (by decide) rfl ?_
  intro p e s m args below meth c s₁ B hml hv
  obtain ⟨rfl, hP, hK, hN⟩ := hv
  have hx := B.exec
  have hb := B.bytes
  have hr := B.returns
  have hts0 := atoms_spec (ws := w_Or_isSize) B.pre
  have hts : ∀ w ∈ zw_T, w.before ([.int p1] : List Value).toArray s = true := fun w h => hts0 w (List.mem_cons_of_mem _ h)
  have hown : s.vm.findClass R_Or = some m.cls := findClass_of_methodNamed B.named
  have hlocks := B.notSynchronized
  have hl := lv_entry ([.int p1]) (n := 1) (Nat.le_of_ble_eq_true rfl)
  rw [lg_entry_eq]
  generalize (lg_sl ([.int p1]) ++ List.replicate (1 - (lg_sl ([.int p1])).length) Slot.unset).toArray = ls at hl ⊢
  have hl : lv_has ls 1 [(0, .int p1)] := hl
  unfold zp_Or_isSize at h
  refine lv_iload_n hx hb d_Or_isSize_0 rfl (lv_at hl 0 rfl) ?_
  refine lv_iconst (v := 1) hx hb d_Or_isSize_1 (by decide) ?_
  refine lv_ldcw (v := 100000) hx hb hown (hts _ zw_72) d_Or_isSize_2 ?_
  have hPc := hP.sub (ws' := []) [] rfl
  refine zq_calli (va_runS (As := [.int p1, .int 1, .int 100000]) (rest := []) ⟨hx, hb, hml, hown, hts⟩ (zc_Or_isWithin l dC dI cI cZ cL p1 1 100000 _ h) (cwS 3 hts (zg_S zw_48 zw_12 zw_11 zw_10) rfl rfl rfl (by decide +kernel) ⟨Nat.le_of_ble_eq_true rfl, Nat.le_of_ble_eq_true rfl⟩) ⟨zb_p, zb_preP hPc hK hN⟩ rfl rfl hl.1 rfl (lv_room (Nat.le_of_ble_eq_true rfl)) d_Or_isSize_5 ⟨Nat.le_of_ble_eq_true rfl, Nat.le_of_ble_eq_true rfl⟩) (fun r1 h => ?_)
  exact W.zret (v := r1) (ty := .boolean) hx hb hr h.1 (fun t ht hW => ⟨_, rfl, h.2, ht⟩) (fun q hq => nomatch hq) d_Or_isSize_8
set_option maxHeartbeats 4000000 in
set_option maxRecDepth 100000 in
theorem zc_Or_isWeight (l : Launch) (dC : Nat → ClassId) (dI : Nat → Nat → Nat) (cI cZ cL : ClassId) (p1 : Int32) (P : Int32 → Prop) (h : zp_Or_isWeight p1 P) : Met l y_Or_isWeight w_Or_isWeight ({ frames := 1, cells := 0, slots := 0, locals := 22 }) (va_Pc [.int p1] (fun U => va_P (dC, dI) vwCl [] U.heap ∧ va_K (dC, dI) vwCl [(cI, .int), (cZ, .boolean), (cL, .long)] U ∧ zn_ok U)) (zq_Ri P) 0 0 (fun _ => False) := by
  refine Met.ofW (cc := b_Or_isWeight) (maxL := 1) (ret := (some .boolean)) (by decide) rfl ?_
  intro p e s m args below meth c s₁ B hml hv
  obtain ⟨rfl, hP, hK, hN⟩ := hv
  have hx := B.exec
  have hb := B.bytes
  have hr := B.returns
  have hts0 := atoms_spec (ws := w_Or_isWeight) B.pre
  have hts : ∀ w ∈ zw_T, w.before ([.int p1] : List Value).toArray s = true := fun w h => hts0 w (List.mem_cons_of_mem _ h)
  have hown : s.vm.findClass R_Or = some m.cls := findClass_of_methodNamed B.named
  have hlocks := B.notSynchronized
  have hl := lv_entry ([.int p1]) (n := 1) (Nat.le_of_ble_eq_true rfl)
  rw [lg_entry_eq]
  generalize (lg_sl ([.int p1]) ++ List.replicate (1 - (lg_sl ([.int p1])).length) Slot.unset).toArray = ls at hl ⊢
  have hl : lv_has ls 1 [(0, .int p1)] := hl
  unfold zp_Or_isWeight at h
  refine lv_iload_n hx hb d_Or_isWeight_0 rfl (lv_at hl 0 rfl) ?_
  refine lv_iconst (v := 0) hx hb d_Or_isWeight_1 (by decide) ?_
  refine lv_ldc (v := 1000000) hx hb hown (hts _ zw_92) d_Or_isWeight_2 ?_
  have hPc := hP.sub (ws' := []) [] rfl
  refine zq_calli (va_runS (As := [.int p1, .int 0, .int 1000000]) (rest := []) ⟨hx, hb, hml, hown, hts⟩ (zc_Or_isWithin l dC dI cI cZ cL p1 0 1000000 _ h) (cwS 3 hts (zg_S zw_48 zw_12 zw_11 zw_10) rfl rfl rfl (by decide +kernel) ⟨Nat.le_of_ble_eq_true rfl, Nat.le_of_ble_eq_true rfl⟩) ⟨zb_p, zb_preP hPc hK hN⟩ rfl rfl hl.1 rfl (lv_room (Nat.le_of_ble_eq_true rfl)) d_Or_isWeight_4 ⟨Nat.le_of_ble_eq_true rfl, Nat.le_of_ble_eq_true rfl⟩) (fun r1 h => ?_)
  exact W.zret (v := r1) (ty := .boolean) hx hb hr h.1 (fun t ht hW => ⟨_, rfl, h.2, ht⟩) (fun q hq => nomatch hq) d_Or_isWeight_7
set_option maxHeartbeats 4000000 in
set_option maxRecDepth 100000 in
theorem zc_Or_needTurn (l : Launch) (dC : Nat → ClassId) (dI : Nat → Nat → Nat) (cI cZ cL : ClassId) (p1 : Int32) (hp : ¬ p1 = 0) : Met l y_Or_needTurn w_Or_needTurn ({ frames := 0, cells := 0, slots := 0, locals := 0 }) (va_Pc [.int p1] (fun U => va_P (dC, dI) vwCl [] U.heap ∧ va_K (dC, dI) vwCl [(cI, .int), (cZ, .boolean), (cL, .long)] U ∧ zn_ok U)) (zq_Rv True) 0 0 (fun _ => False) := by
  refine Met.ofW (cc := b_Or_needTurn) (maxL := 1) (ret := none) (by decide) rfl ?_
  intro p e s m args below meth c s₁ B hml hv
  obtain ⟨rfl, hP, hK, hN⟩ := hv
  have hx := B.exec
  have hb := B.bytes
  have hr := B.returns
  have hlocks := B.notSynchronized
  have hl := lv_entry ([.int p1]) (n := 1) (Nat.le_of_ble_eq_true rfl)
  rw [lg_entry_eq]
  generalize (lg_sl ([.int p1]) ++ List.replicate (1 - (lg_sl ([.int p1])).length) Slot.unset).toArray = ls at hl ⊢
  have hl : lv_has ls 1 [(0, .int p1)] := hl
  refine lv_iload_n hx hb d_Or_needTurn_0 rfl (lv_at hl 0 rfl) ?_
  refine lv_if_ne (tgt := 14) hx hb d_Or_needTurn_1 (by decide) (fun c1 => ?_) (fun c1 => absurd c1 hp)
  exact W.vret hx hb hr (fun t ht hW => ⟨rfl, trivial, ht⟩) (fun q hq => nomatch hq) d_Or_needTurn_14
set_option maxRecDepth 100000 in
theorem zu_Or_needTurn : ∀ w ∈ Bundle.ownAtoms R_Or 257 "java/lang/IllegalStateException" ["java/lang/RuntimeException", "java/lang/Exception"], w ∈ zw_T ∨ w ∈ [zt_h1, zt_h2, zt_h3, zt_h4] ∨ w ∈ zt_cs := by decide +kernel
set_option maxHeartbeats 4000000 in
set_option maxRecDepth 100000 in
theorem zn_Or_needTurn (l : Launch) (hlt : l.stackTraces = false) (dC : Nat → ClassId) (dI : Nat → Nat → Nat) (cI cZ cL : ClassId) (p1 : Int32) (hp : p1 = 0) (X : String → Prop) (h : X "java/lang/IllegalStateException") : zx_Met l y_Or_needTurn w_Or_needTurn ({ frames := 6, cells := 1, slots := 6, locals := 82 }) (va_Pc [.int p1] (fun U => va_P (dC, dI) vwCl [] U.heap ∧ va_K (dC, dI) vwCl [(cI, .int), (cZ, .boolean), (cL, .long)] U ∧ zn_ok U ∧ zt_ok U)) (fun _ _ _ _ => False) X (fun _ => False) := by
  refine zx_ofW (cc := b_Or_needTurn) (maxL := 1) (ret := none) (by decide) rfl ?_
  intro p e s m args below meth c s₁ B hml hnox hv
  obtain ⟨rfl, hP, hK, hN, hZ⟩ := hv
  have hx := B.exec
  have hb := B.bytes
  have hlocks := B.notSynchronized
  have hts0 := atoms_spec (ws := w_Or_needTurn) B.pre
  have hts : ∀ w ∈ zw_T, w.before ([.int p1] : List Value).toArray s = true := fun w h => hts0 w (List.mem_cons_of_mem _ h)
  have hown : s.vm.findClass R_Or = some m.cls := findClass_of_methodNamed B.named
  have hl := lv_entry ([.int p1]) (n := 1) (Nat.le_of_ble_eq_true rfl)
  rw [lg_entry_eq]
  generalize (lg_sl ([.int p1]) ++ List.replicate (1 - (lg_sl ([.int p1])).length) Slot.unset).toArray = ls at hl ⊢
  have hl : lv_has ls 1 [(0, .int p1)] := hl
  obtain ⟨sa, hstr⟩ := hZ.2.2.2.2
  refine lv_iload_n hx hb d_Or_needTurn_0 rfl (lv_at hl 0 rfl) ?_
  refine lv_if_ne (tgt := 14) hx hb d_Or_needTurn_1 (by decide) (fun c1 => absurd hp c1) (fun c1 => ?_)
  exact zx_throw (names := ["java/lang/RuntimeException", "java/lang/Exception"]) hx hb hlt hown (by decide +kernel) (by decide +kernel) (hts _ zw_111) (hts _ zw_112) hstr (zt_all hts zu_Or_needTurn hZ.1) (by rw [hml]; exact hl.1) d_Or_needTurn_4 d_Or_needTurn_7 d_Or_needTurn_8 d_Or_needTurn_10 d_Or_needTurn_13 hnox (Nat.le_of_ble_eq_true rfl) (Nat.le_of_ble_eq_true rfl) (Nat.le_of_ble_eq_true rfl) (Nat.le_of_ble_eq_true rfl) hlocks h
set_option maxHeartbeats 4000000 in
set_option maxRecDepth 100000 in
theorem zc_Or_isValueOf (l : Launch) (dC : Nat → ClassId) (dI : Nat → Nat → Nat) (cI cZ cL : ClassId) (h0 a_orders a_items a_changes a_outputs a_rates a_quotes a_accounts a_calendar : Nat) (k_today : Int32) (p1 : Int32) (p2 : Int32) (P : Int32 → Prop) (h : zp_Or_isValueOf p1 p2 k_today P) : Met l y_Or_isValueOf w_Or_isValueOf ({ frames := 2, cells := 0, slots := 0, locals := 43 }) (va_Pc [.ref h0, .int p1, .int p2] (fun U => va_P (dC, dI) vwCl [(h0, .inr (8, [.ref a_orders, .ref a_items, .ref a_changes, .ref a_outputs, .ref a_rates, .ref a_quotes, .ref a_accounts, .ref a_calendar, .int k_today]))] U.heap ∧ va_K (dC, dI) vwCl [(cI, .int), (cZ, .boolean), (cL, .long)] U ∧ zn_ok U)) (zq_Ri P) 0 0 (fun _ => False) := by
  refine Met.ofW (cc := b_Or_isValueOf) (maxL := 3) (ret := (some .boolean)) (by decide) rfl ?_
  intro p e s m args below meth c s₁ B hml hv
  obtain ⟨rfl, hP, hK, hN⟩ := hv
  have hx := B.exec
  have hb := B.bytes
  have hr := B.returns
  have hts0 := atoms_spec (ws := w_Or_isValueOf) B.pre
  have hts : ∀ w ∈ zw_T, w.before ([.ref h0, .int p1, .int p2] : List Value).toArray s = true := fun w h => hts0 w (List.mem_cons_of_mem _ h)
  have hown : s.vm.findClass R_Or = some m.cls := findClass_of_methodNamed B.named
  have hlocks := B.notSynchronized
  have hl := lv_entry ([.ref h0, .int p1, .int p2]) (n := 3) (Nat.le_of_ble_eq_true rfl)
  rw [lg_entry_eq]
  generalize (lg_sl ([.ref h0, .int p1, .int p2]) ++ List.replicate (3 - (lg_sl ([.ref h0, .int p1, .int p2])).length) Slot.unset).toArray = ls at hl ⊢
  have hl : lv_has ls 3 [(0, .ref h0), (1, .int p1), (2, .int p2)] := hl
  unfold zp_Or_isValueOf at h
  refine lv_iload_n hx hb d_Or_isValueOf_0 rfl (lv_at hl 1 rfl) ?_
  refine lv_iconst (v := 2) hx hb d_Or_isValueOf_1 (by decide) ?_
  refine lv_icmp_gt (tgt := 10) hx hb d_Or_isValueOf_2 (by decide) (fun c1 => ?_) (fun c1 => ?_)
  · have h := h.1 c1
    refine lv_iload_n hx hb d_Or_isValueOf_10 rfl (lv_at hl 1 rfl) ?_
    refine lv_iconst (v := 5) hx hb d_Or_isValueOf_11 (by decide) ?_
    refine lv_icmp_ne (tgt := 23) hx hb d_Or_isValueOf_12 (by decide) (fun c2 => ?_) (fun c2 => ?_)
    · have h := h.1 c2
      refine lv_iload_n hx hb d_Or_isValueOf_23 rfl (lv_at hl 2 rfl) ?_
      have hPc := hP.sub (ws' := []) [] rfl
      refine zq_calli (va_runS (As := [.int p2]) (rest := []) ⟨hx, hb, hml, hown, hts⟩ (zc_Or_isWeight l dC dI cI cZ cL p2 _ h) (cwS 1 hts (zg_S zw_107 zw_108 zw_11 zw_109) rfl rfl rfl (by decide +kernel) ⟨Nat.le_of_ble_eq_true rfl, Nat.le_of_ble_eq_true rfl⟩) ⟨zb_p, zb_preP hPc hK hN⟩ rfl rfl hl.1 rfl (lv_room (Nat.le_of_ble_eq_true rfl)) d_Or_isValueOf_24 ⟨Nat.le_of_ble_eq_true rfl, Nat.le_of_ble_eq_true rfl⟩) (fun r3 h => ?_)
      exact W.zret (v := r3) (ty := .boolean) hx hb hr h.1 (fun t ht hW => ⟨_, rfl, h.2, ht⟩) (fun q hq => nomatch hq) d_Or_isValueOf_27
    · have h := h.2 c2
      refine lv_aload_n hx hb d_Or_isValueOf_15 rfl (lv_at hl 0 rfl) ?_
      refine lv_iload_n hx hb d_Or_isValueOf_16 rfl (lv_at hl 2 rfl) ?_
      have hPc := hP.sub (ws' := [(h0, .inr (8, [.ref a_orders, .ref a_items, .ref a_changes, .ref a_outputs, .ref a_rates, .ref a_quotes, .ref a_accounts, .ref a_calendar, .int k_today]))]) [0] rfl
      refine zq_calli (va_runV (As := [.int p2]) (rest := []) ⟨hx, hb, hml, hown, hts⟩ (zc_Or_isDayToCome l dC dI cI cZ cL h0 a_orders a_items a_changes a_outputs a_rates a_quotes a_accounts a_calendar k_today p2 _ h) (cwV 1 hts (zg_V zw_64 zw_65 zw_66 zw_11 zw_67) rfl rfl rfl (by decide +kernel) ⟨Nat.le_of_ble_eq_true rfl, Nat.le_of_ble_eq_true rfl⟩) ⟨zb_p, va_recv hK hPc (ci := 8) (q0 := 0) rfl rfl, zb_preP hPc hK hN⟩ rfl rfl hl.1 rfl (lv_room (Nat.le_of_ble_eq_true rfl)) d_Or_isValueOf_17 ⟨Nat.le_of_ble_eq_true rfl, Nat.le_of_ble_eq_true rfl⟩) (fun r4 h => ?_)
      refine lv_goto (tgt := 27) hx hb d_Or_isValueOf_20 (by decide) ?_
      exact W.zret (v := r4) (ty := .boolean) hx hb hr h.1 (fun t ht hW => ⟨_, rfl, h.2, ht⟩) (fun q hq => nomatch hq) d_Or_isValueOf_27
  · have h := h.2 c1
    refine lv_iload_n hx hb d_Or_isValueOf_5 rfl (lv_at hl 2 rfl) ?_
    have hPc := hP.sub (ws' := []) [] rfl
    refine zq_calli (va_runS (As := [.int p2]) (rest := []) ⟨hx, hb, hml, hown, hts⟩ (zc_Or_isSize l dC dI cI cZ cL p2 _ h) (cwS 1 hts (zg_S zw_89 zw_90 zw_11 zw_91) rfl rfl rfl (by decide +kernel) ⟨Nat.le_of_ble_eq_true rfl, Nat.le_of_ble_eq_true rfl⟩) ⟨zb_p, zb_preP hPc hK hN⟩ rfl rfl hl.1 rfl (lv_room (Nat.le_of_ble_eq_true rfl)) d_Or_isValueOf_6 ⟨Nat.le_of_ble_eq_true rfl, Nat.le_of_ble_eq_true rfl⟩) (fun r5 h => ?_)
    exact W.zret (v := r5) (ty := .boolean) hx hb hr h.1 (fun t ht hW => ⟨_, rfl, h.2, ht⟩) (fun q hq => nomatch hq) d_Or_isValueOf_9
set_option maxHeartbeats 4000000 in
set_option maxRecDepth 100000 in
theorem zc_Or_valueOn (l : Launch) (dC : Nat → ClassId) (dI : Nat → Nat → Nat) (cI cZ cL : ClassId) (h0 a_orders a_items a_changes a_outputs a_rates a_quotes a_accounts a_calendar a_items_orderOf a_items_agreedRule a_items_first a_changes_field a_changes_value a_changes_from a_changes_told a_changes_count : Nat) (k_items_first : Nat → Int32) (k_items_count : Int32) (k_changes_field : Nat → Int32) (k_changes_value : Nat → Int32) (k_changes_from : Nat → Int32) (k_changes_count : Nat → Int32) (k_today : Int32) (p1 : Int32) (p2 : Int32) (p3 : Int32) (P : Int32 → Prop) (h : zp_Or_valueOn p1 p2 p3 k_items_first k_changes_field k_changes_value k_changes_from k_changes_count P) : Met l y_Or_valueOn w_Or_valueOn ({ frames := 2, cells := 0, slots := 0, locals := 51 }) (va_Pc [.ref h0, .int p1, .int p2, .int p3] (fun U => va_P (dC, dI) vwCl [(h0, .inr (8, [.ref a_orders, .ref a_items, .ref a_changes, .ref a_outputs, .ref a_rates, .ref a_quotes, .ref a_accounts, .ref a_calendar, .int k_today])), (a_items, .inr (3, [.ref a_items_orderOf, .ref a_items_agreedRule, .ref a_items_first, .int k_items_count])), (a_items_first, .inl (cI, 360, .inl k_items_first)), (a_changes, .inr (2, [.ref a_changes_field, .ref a_changes_value, .ref a_changes_from, .ref a_changes_told, .ref a_changes_count])), (a_changes_field, .inl (cI, 1200, .inl k_changes_field)), (a_changes_value, .inl (cI, 1200, .inl k_changes_value)), (a_changes_from, .inl (cI, 1200, .inl k_changes_from)), (a_changes_count, .inl (cI, 60, .inl k_changes_count))] U.heap ∧ va_K (dC, dI) vwCl [(cI, .int), (cZ, .boolean), (cL, .long)] U ∧ zn_ok U)) (zq_Ri P) 0 0 (fun _ => False) := by
  refine Met.ofW (cc := b_Or_valueOn) (maxL := 4) (ret := (some .int)) (by decide) rfl ?_
  intro p e s m args below meth c s₁ B hml hv
  obtain ⟨rfl, hP, hK, hN⟩ := hv
  have hx := B.exec
  have hb := B.bytes
  have hr := B.returns
  have hts0 := atoms_spec (ws := w_Or_valueOn) B.pre
  have hts : ∀ w ∈ zw_T, w.before ([.ref h0, .int p1, .int p2, .int p3] : List Value).toArray s = true := fun w h => hts0 w (List.mem_cons_of_mem _ h)
  have hown : s.vm.findClass R_Or = some m.cls := findClass_of_methodNamed B.named
  have hlocks := B.notSynchronized
  have hl := lv_entry ([.ref h0, .int p1, .int p2, .int p3]) (n := 4) (Nat.le_of_ble_eq_true rfl)
  rw [lg_entry_eq]
  generalize (lg_sl ([.ref h0, .int p1, .int p2, .int p3]) ++ List.replicate (4 - (lg_sl ([.ref h0, .int p1, .int p2, .int p3])).length) Slot.unset).toArray = ls at hl ⊢
  have hl : lv_has ls 4 [(0, .ref h0), (1, .int p1), (2, .int p2), (3, .int p3)] := hl
  unfold zp_Or_valueOn at h
  refine lv_aload_n hx hb d_Or_valueOn_0 rfl (lv_at hl 0 rfl) ?_
  refine va_get (D := (dC, dI)) (ci := 8) (v := .ref a_changes) (C := R_Or) (T := F_Or) (N := 9) hx hb hts zl_Or hown hK hP 0 rfl rfl 2 (by decide) (hts _ zw_93) (fun _ h9 => h9) rfl d_Or_valueOn_1 ?_
  refine lv_iload_n hx hb d_Or_valueOn_4 rfl (lv_at hl 1 rfl) ?_
  refine lv_iload_n hx hb d_Or_valueOn_5 rfl (lv_at hl 2 rfl) ?_
  refine lv_iload_n hx hb d_Or_valueOn_6 rfl (lv_at hl 3 rfl) ?_
  refine lv_aload_n hx hb d_Or_valueOn_7 rfl (lv_at hl 0 rfl) ?_
  refine va_get (D := (dC, dI)) (ci := 8) (v := .ref a_items) (C := R_Or) (T := F_Or) (N := 9) hx hb hts zl_Or hown hK hP 0 rfl rfl 1 (by decide) (hts _ zw_73) (fun _ h9 => h9) rfl d_Or_valueOn_8 ?_
  refine lv_iload_n hx hb d_Or_valueOn_11 rfl (lv_at hl 1 rfl) ?_
  refine lv_iload_n hx hb d_Or_valueOn_12 rfl (lv_at hl 2 rfl) ?_
  have hPc := hP.sub (ws' := [(a_items, .inr (3, [.ref a_items_orderOf, .ref a_items_agreedRule, .ref a_items_first, .int k_items_count])), (a_items_first, .inl (cI, 360, .inl k_items_first))]) [1, 2] rfl
  refine zq_calli (va_runV (As := [.int p1, .int p2]) (rest := [.int p3, .int p2, .int p1, .ref a_changes]) ⟨hx, hb, hml, hown, hts⟩ (zc_Itm_atFirst l dC dI cI cZ cL a_items a_items_orderOf a_items_agreedRule a_items_first k_items_first k_items_count p1 p2 _ h) (cwV 2 hts (zg_V zw_113 zw_114 zw_115 zw_77 zw_116) rfl rfl rfl (by decide +kernel) ⟨Nat.le_of_ble_eq_true rfl, Nat.le_of_ble_eq_true rfl⟩) ⟨zb_p, va_recv hK hPc (ci := 3) (q0 := 0) rfl rfl, zb_preP hPc hK hN⟩ rfl rfl hl.1 rfl (lv_room (Nat.le_of_ble_eq_true rfl)) d_Or_valueOn_13 ⟨Nat.le_of_ble_eq_true rfl, Nat.le_of_ble_eq_true rfl⟩) (fun r1 h => ?_)
  have hPc := hP.sub (ws' := [(a_changes, .inr (2, [.ref a_changes_field, .ref a_changes_value, .ref a_changes_from, .ref a_changes_told, .ref a_changes_count])), (a_changes_field, .inl (cI, 1200, .inl k_changes_field)), (a_changes_value, .inl (cI, 1200, .inl k_changes_value)), (a_changes_from, .inl (cI, 1200, .inl k_changes_from)), (a_changes_count, .inl (cI, 60, .inl k_changes_count))]) [3, 4, 5, 6, 7] rfl
  refine zq_calli (va_runV (As := [.int p1, .int p2, .int p3, .int r1]) (rest := []) ⟨hx, hb, hml, hown, hts⟩ (zc_Chg_valueOn l dC dI cI cZ cL a_changes a_changes_field a_changes_value a_changes_from a_changes_told a_changes_count k_changes_field k_changes_value k_changes_from k_changes_count p1 p2 p3 r1 _ h) (cwV 4 hts (zg_V zw_117 zw_118 zw_119 zw_97 zw_120) rfl rfl rfl (by decide +kernel) ⟨Nat.le_of_ble_eq_true rfl, Nat.le_of_ble_eq_true rfl⟩) ⟨zb_p, va_recv hK hPc (ci := 2) (q0 := 0) rfl rfl, zb_preP hPc hK hN⟩ rfl rfl hl.1 rfl (lv_room (Nat.le_of_ble_eq_true rfl)) d_Or_valueOn_16 ⟨Nat.le_of_ble_eq_true rfl, Nat.le_of_ble_eq_true rfl⟩) (fun r2 h => ?_)
  exact W.iret (v := r2) hx hb hr (fun t ht hW => ⟨_, rfl, h, ht⟩) (fun q hq => nomatch hq) d_Or_valueOn_19
set_option maxHeartbeats 4000000 in
set_option maxRecDepth 100000 in
theorem zc_Or_keepsLeastWithinMost (l : Launch) (dC : Nat → ClassId) (dI : Nat → Nat → Nat) (cI cZ cL : ClassId) (h0 a_orders a_items a_changes a_outputs a_rates a_quotes a_accounts a_calendar a_items_orderOf a_items_agreedRule a_items_first a_changes_field a_changes_value a_changes_from a_changes_told a_changes_count : Nat) (k_items_first : Nat → Int32) (k_items_count : Int32) (k_changes_field : Nat → Int32) (k_changes_value : Nat → Int32) (k_changes_from : Nat → Int32) (k_changes_count : Nat → Int32) (k_today : Int32) (p1 : Int32) (p2 : Int32) (p3 : Int32) (p4 : Int32) (P : Int32 → Prop) (h : zp_Or_keepsLeastWithinMost p1 p2 p3 p4 k_items_first k_changes_field k_changes_value k_changes_from k_changes_count P) : Met l y_Or_keepsLeastWithinMost w_Or_keepsLeastWithinMost ({ frames := 3, cells := 0, slots := 0, locals := 74 }) (va_Pc [.ref h0, .int p1, .int p2, .int p3, .int p4] (fun U => va_P (dC, dI) vwCl [(h0, .inr (8, [.ref a_orders, .ref a_items, .ref a_changes, .ref a_outputs, .ref a_rates, .ref a_quotes, .ref a_accounts, .ref a_calendar, .int k_today])), (a_items, .inr (3, [.ref a_items_orderOf, .ref a_items_agreedRule, .ref a_items_first, .int k_items_count])), (a_items_first, .inl (cI, 360, .inl k_items_first)), (a_changes, .inr (2, [.ref a_changes_field, .ref a_changes_value, .ref a_changes_from, .ref a_changes_told, .ref a_changes_count])), (a_changes_field, .inl (cI, 1200, .inl k_changes_field)), (a_changes_value, .inl (cI, 1200, .inl k_changes_value)), (a_changes_from, .inl (cI, 1200, .inl k_changes_from)), (a_changes_count, .inl (cI, 60, .inl k_changes_count))] U.heap ∧ va_K (dC, dI) vwCl [(cI, .int), (cZ, .boolean), (cL, .long)] U ∧ zn_ok U)) (zq_Ri P) 0 0 (fun _ => False) := by
  refine Met.ofW (cc := b_Or_keepsLeastWithinMost) (maxL := 5) (ret := (some .boolean)) (by decide) rfl ?_
  intro p e s m args below meth c s₁ B hml hv
  obtain ⟨rfl, hP, hK, hN⟩ := hv
  have hx := B.exec
  have hb := B.bytes
  have hr := B.returns
  have hts0 := atoms_spec (ws := w_Or_keepsLeastWithinMost) B.pre
  have hts : ∀ w ∈ zw_T, w.before ([.ref h0, .int p1, .int p2, .int p3, .int p4] : List Value).toArray s = true := fun w h => hts0 w (List.mem_cons_of_mem _ h)
  have hown : s.vm.findClass R_Or = some m.cls := findClass_of_methodNamed B.named
  have hlocks := B.notSynchronized
  have hl := lv_entry ([.ref h0, .int p1, .int p2, .int p3, .int p4]) (n := 5) (Nat.le_of_ble_eq_true rfl)
  rw [lg_entry_eq]
  generalize (lg_sl ([.ref h0, .int p1, .int p2, .int p3, .int p4]) ++ List.replicate (5 - (lg_sl ([.ref h0, .int p1, .int p2, .int p3, .int p4])).length) Slot.unset).toArray = ls at hl ⊢
  have hl : lv_has ls 5 [(0, .ref h0), (1, .int p1), (2, .int p2), (3, .int p3), (4, .int p4)] := hl
  unfold zp_Or_keepsLeastWithinMost at h
  refine lv_iload_n hx hb d_Or_keepsLeastWithinMost_0 rfl (lv_at hl 2 rfl) ?_
  refine lv_iconst (v := 3) hx hb d_Or_keepsLeastWithinMost_1 (by decide) ?_
  refine lv_icmp_ne (tgt := 23) hx hb d_Or_keepsLeastWithinMost_2 (by decide) (fun c1 => ?_) (fun c1 => ?_)
  · have h := h.1 c1
    refine lv_iload_n hx hb d_Or_keepsLeastWithinMost_23 rfl (lv_at hl 2 rfl) ?_
    refine lv_iconst (v := 4) hx hb d_Or_keepsLeastWithinMost_24 (by decide) ?_
    refine lv_icmp_ne (tgt := 40) hx hb d_Or_keepsLeastWithinMost_25 (by decide) (fun c2 => ?_) (fun c2 => ?_)
    · have h := h.1 c2
      refine lv_iconst (v := 1) hx hb d_Or_keepsLeastWithinMost_40 (by decide) ?_
      refine lv_goto (tgt := 45) hx hb d_Or_keepsLeastWithinMost_41 (by decide) ?_
      exact W.zret (v := 1) (ty := .boolean) hx hb hr h.1 (fun t ht hW => ⟨_, rfl, h.2, ht⟩) (fun q hq => nomatch hq) d_Or_keepsLeastWithinMost_45
    · have h := h.2 c2
      refine lv_aload_n hx hb d_Or_keepsLeastWithinMost_28 rfl (lv_at hl 0 rfl) ?_
      refine lv_iload_n hx hb d_Or_keepsLeastWithinMost_29 rfl (lv_at hl 1 rfl) ?_
      refine lv_iconst (v := 3) hx hb d_Or_keepsLeastWithinMost_30 (by decide) ?_
      refine lv_iload hx hb d_Or_keepsLeastWithinMost_31 (lv_at hl 4 rfl) ?_
      have hPc := hP.sub (ws' := [(h0, .inr (8, [.ref a_orders, .ref a_items, .ref a_changes, .ref a_outputs, .ref a_rates, .ref a_quotes, .ref a_accounts, .ref a_calendar, .int k_today])), (a_items, .inr (3, [.ref a_items_orderOf, .ref a_items_agreedRule, .ref a_items_first, .int k_items_count])), (a_items_first, .inl (cI, 360, .inl k_items_first)), (a_changes, .inr (2, [.ref a_changes_field, .ref a_changes_value, .ref a_changes_from, .ref a_changes_told, .ref a_changes_count])), (a_changes_field, .inl (cI, 1200, .inl k_changes_field)), (a_changes_value, .inl (cI, 1200, .inl k_changes_value)), (a_changes_from, .inl (cI, 1200, .inl k_changes_from)), (a_changes_count, .inl (cI, 60, .inl k_changes_count))]) [0, 1, 2, 3, 4, 5, 6, 7] rfl
      refine zq_calli (va_runV (As := [.int p1, .int 3, .int p4]) (rest := []) ⟨hx, hb, hml, hown, hts⟩ (zc_Or_valueOn l dC dI cI cZ cL h0 a_orders a_items a_changes a_outputs a_rates a_quotes a_accounts a_calendar a_items_orderOf a_items_agreedRule a_items_first a_changes_field a_changes_value a_changes_from a_changes_told a_changes_count k_items_first k_items_count k_changes_field k_changes_value k_changes_from k_changes_count k_today p1 3 p4 _ h) (cwV 3 hts (zg_V zw_121 zw_122 zw_123 zw_11 zw_124) rfl rfl rfl (by decide +kernel) ⟨Nat.le_of_ble_eq_true rfl, Nat.le_of_ble_eq_true rfl⟩) ⟨zb_p, va_recv hK hPc (ci := 8) (q0 := 0) rfl rfl, zb_preP hPc hK hN⟩ rfl rfl hl.1 rfl (lv_room (Nat.le_of_ble_eq_true rfl)) d_Or_keepsLeastWithinMost_33 ⟨Nat.le_of_ble_eq_true rfl, Nat.le_of_ble_eq_true rfl⟩) (fun r3 h => ?_)
      refine lv_iload_n hx hb d_Or_keepsLeastWithinMost_36 rfl (lv_at hl 3 rfl) ?_
      refine lv_icmp_gt (tgt := 44) hx hb d_Or_keepsLeastWithinMost_37 (by decide) (fun c4 => ?_) (fun c4 => ?_)
      · have h := h.1 c4
        refine lv_iconst (v := 0) hx hb d_Or_keepsLeastWithinMost_44 (by decide) ?_
        exact W.zret (v := 0) (ty := .boolean) hx hb hr h.1 (fun t ht hW => ⟨_, rfl, h.2, ht⟩) (fun q hq => nomatch hq) d_Or_keepsLeastWithinMost_45
      · have h := h.2 c4
        refine lv_iconst (v := 1) hx hb d_Or_keepsLeastWithinMost_40 (by decide) ?_
        refine lv_goto (tgt := 45) hx hb d_Or_keepsLeastWithinMost_41 (by decide) ?_
        exact W.zret (v := 1) (ty := .boolean) hx hb hr h.1 (fun t ht hW => ⟨_, rfl, h.2, ht⟩) (fun q hq => nomatch hq) d_Or_keepsLeastWithinMost_45
  · have h := h.2 c1
    refine lv_iload_n hx hb d_Or_keepsLeastWithinMost_5 rfl (lv_at hl 3 rfl) ?_
    refine lv_aload_n hx hb d_Or_keepsLeastWithinMost_6 rfl (lv_at hl 0 rfl) ?_
    refine lv_iload_n hx hb d_Or_keepsLeastWithinMost_7 rfl (lv_at hl 1 rfl) ?_
    refine lv_iconst (v := 4) hx hb d_Or_keepsLeastWithinMost_8 (by decide) ?_
    refine lv_iload hx hb d_Or_keepsLeastWithinMost_9 (lv_at hl 4 rfl) ?_
    have hPc := hP.sub (ws' := [(h0, .inr (8, [.ref a_orders, .ref a_items, .ref a_changes, .ref a_outputs, .ref a_rates, .ref a_quotes, .ref a_accounts, .ref a_calendar, .int k_today])), (a_items, .inr (3, [.ref a_items_orderOf, .ref a_items_agreedRule, .ref a_items_first, .int k_items_count])), (a_items_first, .inl (cI, 360, .inl k_items_first)), (a_changes, .inr (2, [.ref a_changes_field, .ref a_changes_value, .ref a_changes_from, .ref a_changes_told, .ref a_changes_count])), (a_changes_field, .inl (cI, 1200, .inl k_changes_field)), (a_changes_value, .inl (cI, 1200, .inl k_changes_value)), (a_changes_from, .inl (cI, 1200, .inl k_changes_from)), (a_changes_count, .inl (cI, 60, .inl k_changes_count))]) [0, 1, 2, 3, 4, 5, 6, 7] rfl
    refine zq_calli (va_runV (As := [.int p1, .int 4, .int p4]) (rest := [.int p3]) ⟨hx, hb, hml, hown, hts⟩ (zc_Or_valueOn l dC dI cI cZ cL h0 a_orders a_items a_changes a_outputs a_rates a_quotes a_accounts a_calendar a_items_orderOf a_items_agreedRule a_items_first a_changes_field a_changes_value a_changes_from a_changes_told a_changes_count k_items_first k_items_count k_changes_field k_changes_value k_changes_from k_changes_count k_today p1 4 p4 _ h) (cwV 3 hts (zg_V zw_121 zw_122 zw_123 zw_11 zw_124) rfl rfl rfl (by decide +kernel) ⟨Nat.le_of_ble_eq_true rfl, Nat.le_of_ble_eq_true rfl⟩) ⟨zb_p, va_recv hK hPc (ci := 8) (q0 := 0) rfl rfl, zb_preP hPc hK hN⟩ rfl rfl hl.1 rfl (lv_room (Nat.le_of_ble_eq_true rfl)) d_Or_keepsLeastWithinMost_11 ⟨Nat.le_of_ble_eq_true rfl, Nat.le_of_ble_eq_true rfl⟩) (fun r5 h => ?_)
    refine lv_icmp_gt (tgt := 21) hx hb d_Or_keepsLeastWithinMost_14 (by decide) (fun c6 => ?_) (fun c6 => ?_)
    · have h := h.1 c6
      refine lv_iconst (v := 0) hx hb d_Or_keepsLeastWithinMost_21 (by decide) ?_
      exact W.zret (v := 0) (ty := .boolean) hx hb hr h.1 (fun t ht hW => ⟨_, rfl, h.2, ht⟩) (fun q hq => nomatch hq) d_Or_keepsLeastWithinMost_22
    · have h := h.2 c6
      refine lv_iconst (v := 1) hx hb d_Or_keepsLeastWithinMost_17 (by decide) ?_
      refine lv_goto (tgt := 22) hx hb d_Or_keepsLeastWithinMost_18 (by decide) ?_
      exact W.zret (v := 1) (ty := .boolean) hx hb hr h.1 (fun t ht hW => ⟨_, rfl, h.2, ht⟩) (fun q hq => nomatch hq) d_Or_keepsLeastWithinMost_22
set_option maxHeartbeats 4000000 in
set_option maxRecDepth 100000 in
theorem zc_Or_isDay (l : Launch) (dC : Nat → ClassId) (dI : Nat → Nat → Nat) (cI cZ cL : ClassId) (p1 : Int32) (P : Int32 → Prop) (h : zp_Or_isDay p1 P) : Met l y_Or_isDay w_Or_isDay ({ frames := 1, cells := 0, slots := 0, locals := 22 }) (va_Pc [.int p1] (fun U => va_P (dC, dI) vwCl [] U.heap ∧ va_K (dC, dI) vwCl [(cI, .int), (cZ, .boolean), (cL, .long)] U ∧ zn_ok U)) (zq_Ri P) 0 0 (fun _ => False) := by
  refine Met.ofW (cc := b_Or_isDay) (maxL := 1) (ret := (some .boolean)) (by decide) rfl ?_
  intro p e s m args below meth c s₁ B hml hv
  obtain ⟨rfl, hP, hK, hN⟩ := hv
  have hx := B.exec
  have hb := B.bytes
  have hr := B.returns
  have hts0 := atoms_spec (ws := w_Or_isDay) B.pre
  have hts : ∀ w ∈ zw_T, w.before ([.int p1] : List Value).toArray s = true := fun w h => hts0 w (List.mem_cons_of_mem _ h)
  have hown : s.vm.findClass R_Or = some m.cls := findClass_of_methodNamed B.named
  have hlocks := B.notSynchronized
  have hl := lv_entry ([.int p1]) (n := 1) (Nat.le_of_ble_eq_true rfl)
  rw [lg_entry_eq]
  generalize (lg_sl ([.int p1]) ++ List.replicate (1 - (lg_sl ([.int p1])).length) Slot.unset).toArray = ls at hl ⊢
  have hl : lv_has ls 1 [(0, .int p1)] := hl
  unfold zp_Or_isDay at h
  refine lv_iload_n hx hb d_Or_isDay_0 rfl (lv_at hl 0 rfl) ?_
  refine lv_iconst (v := 0) hx hb d_Or_isDay_1 (by decide) ?_
  refine lv_sipush (v := 9999) hx hb d_Or_isDay_2 (by decide) ?_
  have hPc := hP.sub (ws' := []) [] rfl
  refine zq_calli (va_runS (As := [.int p1, .int 0, .int 9999]) (rest := []) ⟨hx, hb, hml, hown, hts⟩ (zc_Or_isWithin l dC dI cI cZ cL p1 0 9999 _ h) (cwS 3 hts (zg_S zw_48 zw_12 zw_11 zw_10) rfl rfl rfl (by decide +kernel) ⟨Nat.le_of_ble_eq_true rfl, Nat.le_of_ble_eq_true rfl⟩) ⟨zb_p, zb_preP hPc hK hN⟩ rfl rfl hl.1 rfl (lv_room (Nat.le_of_ble_eq_true rfl)) d_Or_isDay_5 ⟨Nat.le_of_ble_eq_true rfl, Nat.le_of_ble_eq_true rfl⟩) (fun r1 h => ?_)
  exact W.zret (v := r1) (ty := .boolean) hx hb hr h.1 (fun t ht hW => ⟨_, rfl, h.2, ht⟩) (fun q hq => nomatch hq) d_Or_isDay_8
set_option maxHeartbeats 4000000 in
set_option maxRecDepth 100000 in
theorem zc_Or_isField (l : Launch) (dC : Nat → ClassId) (dI : Nat → Nat → Nat) (cI cZ cL : ClassId) (p1 : Int32) (P : Int32 → Prop) (h : zp_Or_isField p1 P) : Met l y_Or_isField w_Or_isField ({ frames := 1, cells := 0, slots := 0, locals := 22 }) (va_Pc [.int p1] (fun U => va_P (dC, dI) vwCl [] U.heap ∧ va_K (dC, dI) vwCl [(cI, .int), (cZ, .boolean), (cL, .long)] U ∧ zn_ok U)) (zq_Ri P) 0 0 (fun _ => False) := by
  refine Met.ofW (cc := b_Or_isField) (maxL := 1) (ret := (some .boolean)) (by decide) rfl ?_
  intro p e s m args below meth c s₁ B hml hv
  obtain ⟨rfl, hP, hK, hN⟩ := hv
  have hx := B.exec
  have hb := B.bytes
  have hr := B.returns
  have hts0 := atoms_spec (ws := w_Or_isField) B.pre
  have hts : ∀ w ∈ zw_T, w.before ([.int p1] : List Value).toArray s = true := fun w h => hts0 w (List.mem_cons_of_mem _ h)
  have hown : s.vm.findClass R_Or = some m.cls := findClass_of_methodNamed B.named
  have hlocks := B.notSynchronized
  have hl := lv_entry ([.int p1]) (n := 1) (Nat.le_of_ble_eq_true rfl)
  rw [lg_entry_eq]
  generalize (lg_sl ([.int p1]) ++ List.replicate (1 - (lg_sl ([.int p1])).length) Slot.unset).toArray = ls at hl ⊢
  have hl : lv_has ls 1 [(0, .int p1)] := hl
  unfold zp_Or_isField at h
  refine lv_iload_n hx hb d_Or_isField_0 rfl (lv_at hl 0 rfl) ?_
  refine lv_iconst (v := 0) hx hb d_Or_isField_1 (by decide) ?_
  refine lv_iconst (v := 5) hx hb d_Or_isField_2 (by decide) ?_
  have hPc := hP.sub (ws' := []) [] rfl
  refine zq_calli (va_runS (As := [.int p1, .int 0, .int 5]) (rest := []) ⟨hx, hb, hml, hown, hts⟩ (zc_Or_isWithin l dC dI cI cZ cL p1 0 5 _ h) (cwS 3 hts (zg_S zw_48 zw_12 zw_11 zw_10) rfl rfl rfl (by decide +kernel) ⟨Nat.le_of_ble_eq_true rfl, Nat.le_of_ble_eq_true rfl⟩) ⟨zb_p, zb_preP hPc hK hN⟩ rfl rfl hl.1 rfl (lv_room (Nat.le_of_ble_eq_true rfl)) d_Or_isField_3 ⟨Nat.le_of_ble_eq_true rfl, Nat.le_of_ble_eq_true rfl⟩) (fun r1 h => ?_)
  exact W.zret (v := r1) (ty := .boolean) hx hb hr h.1 (fun t ht hW => ⟨_, rfl, h.2, ht⟩) (fun q hq => nomatch hq) d_Or_isField_6
set_option maxHeartbeats 4000000 in
set_option maxRecDepth 100000 in
theorem zc_Or_stateOn (l : Launch) (dC : Nat → ClassId) (dI : Nat → Nat → Nat) (cI cZ cL : ClassId) (h0 a_orders a_items a_changes a_outputs a_rates a_quotes a_accounts a_calendar a_items_orderOf a_items_agreedRule a_items_first a_changes_field a_changes_value a_changes_from a_changes_told a_changes_count a_outputs_item a_outputs_day a_outputs_kilos a_outputs_total : Nat) (k_items_first : Nat → Int32) (k_items_count : Int32) (k_changes_field : Nat → Int32) (k_changes_value : Nat → Int32) (k_changes_from : Nat → Int32) (k_changes_count : Nat → Int32) (k_outputs_item : Nat → Int32) (k_outputs_day : Nat → Int32) (k_outputs_kilos : Nat → Int32) (k_outputs_total : Nat → Int32) (k_outputs_count : Int32) (k_today : Int32) (p1 : Int32) (p2 : Int32) (P : Int32 → Prop) (h : zp_Or_stateOn p1 p2 k_items_first k_changes_field k_changes_value k_changes_from k_changes_count k_outputs_item k_outputs_day k_outputs_kilos k_outputs_total k_outputs_count P) : Met l y_Or_stateOn w_Or_stateOn ({ frames := 3, cells := 0, slots := 0, locals := 74 }) (va_Pc [.ref h0, .int p1, .int p2] (fun U => va_P (dC, dI) vwCl [(h0, .inr (8, [.ref a_orders, .ref a_items, .ref a_changes, .ref a_outputs, .ref a_rates, .ref a_quotes, .ref a_accounts, .ref a_calendar, .int k_today])), (a_items, .inr (3, [.ref a_items_orderOf, .ref a_items_agreedRule, .ref a_items_first, .int k_items_count])), (a_items_first, .inl (cI, 360, .inl k_items_first)), (a_changes, .inr (2, [.ref a_changes_field, .ref a_changes_value, .ref a_changes_from, .ref a_changes_told, .ref a_changes_count])), (a_changes_field, .inl (cI, 1200, .inl k_changes_field)), (a_changes_value, .inl (cI, 1200, .inl k_changes_value)), (a_changes_from, .inl (cI, 1200, .inl k_changes_from)), (a_changes_count, .inl (cI, 60, .inl k_changes_count)), (a_outputs, .inr (5, [.ref a_outputs_item, .ref a_outputs_day, .ref a_outputs_kilos, .ref a_outputs_total, .int k_outputs_count])), (a_outputs_item, .inl (cI, 200, .inl k_outputs_item)), (a_outputs_day, .inl (cI, 200, .inl k_outputs_day)), (a_outputs_kilos, .inl (cI, 200, .inl k_outputs_kilos)), (a_outputs_total, .inl (cI, 60, .inl k_outputs_total))] U.heap ∧ va_K (dC, dI) vwCl [(cI, .int), (cZ, .boolean), (cL, .long)] U ∧ zn_ok U)) (zq_Ri P) 0 0 (fun _ => False) := by
  refine Met.ofW (cc := b_Or_stateOn) (maxL := 4) (ret := (some .int)) (by decide) rfl ?_
  intro p e s m args below meth c s₁ B hml hv
  obtain ⟨rfl, hP, hK, hN⟩ := hv
  have hx := B.exec
  have hb := B.bytes
  have hr := B.returns
  have hts0 := atoms_spec (ws := w_Or_stateOn) B.pre
  have hts : ∀ w ∈ zw_T, w.before ([.ref h0, .int p1, .int p2] : List Value).toArray s = true := fun w h => hts0 w (List.mem_cons_of_mem _ h)
  have hown : s.vm.findClass R_Or = some m.cls := findClass_of_methodNamed B.named
  have hlocks := B.notSynchronized
  have hl := lv_entry ([.ref h0, .int p1, .int p2]) (n := 4) (Nat.le_of_ble_eq_true rfl)
  rw [lg_entry_eq]
  generalize (lg_sl ([.ref h0, .int p1, .int p2]) ++ List.replicate (4 - (lg_sl ([.ref h0, .int p1, .int p2])).length) Slot.unset).toArray = ls at hl ⊢
  have hl : lv_has ls 4 [(0, .ref h0), (1, .int p1), (2, .int p2)] := hl
  unfold zp_Or_stateOn at h
  refine lv_aload_n hx hb d_Or_stateOn_0 rfl (lv_at hl 0 rfl) ?_
  refine va_get (D := (dC, dI)) (ci := 8) (v := .ref a_outputs) (C := R_Or) (T := F_Or) (N := 9) hx hb hts zl_Or hown hK hP 0 rfl rfl 3 (by decide) (hts _ zw_139) (fun _ h9 => h9) rfl d_Or_stateOn_1 ?_
  refine lv_iload_n hx hb d_Or_stateOn_4 rfl (lv_at hl 1 rfl) ?_
  refine lv_iload_n hx hb d_Or_stateOn_5 rfl (lv_at hl 2 rfl) ?_
  have hPc := hP.sub (ws' := [(a_outputs, .inr (5, [.ref a_outputs_item, .ref a_outputs_day, .ref a_outputs_kilos, .ref a_outputs_total, .int k_outputs_count])), (a_outputs_item, .inl (cI, 200, .inl k_outputs_item)), (a_outputs_day, .inl (cI, 200, .inl k_outputs_day)), (a_outputs_kilos, .inl (cI, 200, .inl k_outputs_kilos)), (a_outputs_total, .inl (cI, 60, .inl k_outputs_total))]) [8, 9, 10, 11, 12] rfl
  refine zq_calli (va_runV (As := [.int p1, .int p2]) (rest := []) ⟨hx, hb, hml, hown, hts⟩ (zc_Out_upTo l dC dI cI cZ cL a_outputs a_outputs_item a_outputs_day a_outputs_kilos a_outputs_total k_outputs_item k_outputs_day k_outputs_kilos k_outputs_total k_outputs_count p1 p2 _ h) (cwV 2 hts (zg_V zw_172 zw_173 zw_174 zw_168 zw_175) rfl rfl rfl (by decide +kernel) ⟨Nat.le_of_ble_eq_true rfl, Nat.le_of_ble_eq_true rfl⟩) ⟨zb_p, va_recv hK hPc (ci := 5) (q0 := 0) rfl rfl, zb_preP hPc hK hN⟩ rfl rfl hl.1 rfl (lv_room (Nat.le_of_ble_eq_true rfl)) d_Or_stateOn_6 ⟨Nat.le_of_ble_eq_true rfl, Nat.le_of_ble_eq_true rfl⟩) (fun r1 h => ?_)
  refine lv_istore_n (lv' := [(3, .int r1), (0, .ref h0), (1, .int p1), (2, .int p2)]) hx hb d_Or_stateOn_9 rfl hl (by decide) rfl (fun ls hl => ?_)
  refine lv_iload_n hx hb d_Or_stateOn_10 rfl (lv_at hl 0 rfl) ?_
  refine lv_aload_n hx hb d_Or_stateOn_11 rfl (lv_at hl 1 rfl) ?_
  refine lv_iload_n hx hb d_Or_stateOn_12 rfl (lv_at hl 2 rfl) ?_
  refine lv_iconst (v := 4) hx hb d_Or_stateOn_13 (by decide) ?_
  refine lv_iload_n hx hb d_Or_stateOn_14 rfl (lv_at hl 3 rfl) ?_
  have hPc := hP.sub (ws' := [(h0, .inr (8, [.ref a_orders, .ref a_items, .ref a_changes, .ref a_outputs, .ref a_rates, .ref a_quotes, .ref a_accounts, .ref a_calendar, .int k_today])), (a_items, .inr (3, [.ref a_items_orderOf, .ref a_items_agreedRule, .ref a_items_first, .int k_items_count])), (a_items_first, .inl (cI, 360, .inl k_items_first)), (a_changes, .inr (2, [.ref a_changes_field, .ref a_changes_value, .ref a_changes_from, .ref a_changes_told, .ref a_changes_count])), (a_changes_field, .inl (cI, 1200, .inl k_changes_field)), (a_changes_value, .inl (cI, 1200, .inl k_changes_value)), (a_changes_from, .inl (cI, 1200, .inl k_changes_from)), (a_changes_count, .inl (cI, 60, .inl k_changes_count))]) [0, 1, 2, 3, 4, 5, 6, 7] rfl
  refine zq_calli (va_runV (As := [.int p1, .int 4, .int p2]) (rest := [.int r1]) ⟨hx, hb, hml, hown, hts⟩ (zc_Or_valueOn l dC dI cI cZ cL h0 a_orders a_items a_changes a_outputs a_rates a_quotes a_accounts a_calendar a_items_orderOf a_items_agreedRule a_items_first a_changes_field a_changes_value a_changes_from a_changes_told a_changes_count k_items_first k_items_count k_changes_field k_changes_value k_changes_from k_changes_count k_today p1 4 p2 _ h) (cwV 3 hts (zg_V zw_121 zw_122 zw_123 zw_11 zw_124) rfl rfl rfl (by decide +kernel) ⟨Nat.le_of_ble_eq_true rfl, Nat.le_of_ble_eq_true rfl⟩) ⟨zb_p, va_recv hK hPc (ci := 8) (q0 := 0) rfl rfl, zb_preP hPc hK hN⟩ rfl rfl hl.1 rfl (lv_room (Nat.le_of_ble_eq_true rfl)) d_Or_stateOn_15 ⟨Nat.le_of_ble_eq_true rfl, Nat.le_of_ble_eq_true rfl⟩) (fun r2 h => ?_)
  refine lv_icmp_le (tgt := 23) hx hb d_Or_stateOn_18 (by decide) (fun c3 => ?_) (fun c3 => ?_)
  · have h := h.1 c3
    refine lv_iload_n hx hb d_Or_stateOn_23 rfl (lv_at hl 0 rfl) ?_
    refine lv_aload_n hx hb d_Or_stateOn_24 rfl (lv_at hl 1 rfl) ?_
    refine lv_iload_n hx hb d_Or_stateOn_25 rfl (lv_at hl 2 rfl) ?_
    refine lv_iconst (v := 3) hx hb d_Or_stateOn_26 (by decide) ?_
    refine lv_iload_n hx hb d_Or_stateOn_27 rfl (lv_at hl 3 rfl) ?_
    have hPc := hP.sub (ws' := [(h0, .inr (8, [.ref a_orders, .ref a_items, .ref a_changes, .ref a_outputs, .ref a_rates, .ref a_quotes, .ref a_accounts, .ref a_calendar, .int k_today])), (a_items, .inr (3, [.ref a_items_orderOf, .ref a_items_agreedRule, .ref a_items_first, .int k_items_count])), (a_items_first, .inl (cI, 360, .inl k_items_first)), (a_changes, .inr (2, [.ref a_changes_field, .ref a_changes_value, .ref a_changes_from, .ref a_changes_told, .ref a_changes_count])), (a_changes_field, .inl (cI, 1200, .inl k_changes_field)), (a_changes_value, .inl (cI, 1200, .inl k_changes_value)), (a_changes_from, .inl (cI, 1200, .inl k_changes_from)), (a_changes_count, .inl (cI, 60, .inl k_changes_count))]) [0, 1, 2, 3, 4, 5, 6, 7] rfl
    refine zq_calli (va_runV (As := [.int p1, .int 3, .int p2]) (rest := [.int r1]) ⟨hx, hb, hml, hown, hts⟩ (zc_Or_valueOn l dC dI cI cZ cL h0 a_orders a_items a_changes a_outputs a_rates a_quotes a_accounts a_calendar a_items_orderOf a_items_agreedRule a_items_first a_changes_field a_changes_value a_changes_from a_changes_told a_changes_count k_items_first k_items_count k_changes_field k_changes_value k_changes_from k_changes_count k_today p1 3 p2 _ h) (cwV 3 hts (zg_V zw_121 zw_122 zw_123 zw_11 zw_124) rfl rfl rfl (by decide +kernel) ⟨Nat.le_of_ble_eq_true rfl, Nat.le_of_ble_eq_true rfl⟩) ⟨zb_p, va_recv hK hPc (ci := 8) (q0 := 0) rfl rfl, zb_preP hPc hK hN⟩ rfl rfl hl.1 rfl (lv_room (Nat.le_of_ble_eq_true rfl)) d_Or_stateOn_28 ⟨Nat.le_of_ble_eq_true rfl, Nat.le_of_ble_eq_true rfl⟩) (fun r4 h => ?_)
    refine lv_icmp_lt (tgt := 36) hx hb d_Or_stateOn_31 (by decide) (fun c5 => ?_) (fun c5 => ?_)
    · have h := h.1 c5
      refine lv_iload_n hx hb d_Or_stateOn_36 rfl (lv_at hl 3 rfl) ?_
      refine lv_aload_n hx hb d_Or_stateOn_37 rfl (lv_at hl 1 rfl) ?_
      refine lv_iload_n hx hb d_Or_stateOn_38 rfl (lv_at hl 2 rfl) ?_
      refine lv_iconst (v := 5) hx hb d_Or_stateOn_39 (by decide) ?_
      refine lv_iload_n hx hb d_Or_stateOn_40 rfl (lv_at hl 3 rfl) ?_
      have hPc := hP.sub (ws' := [(h0, .inr (8, [.ref a_orders, .ref a_items, .ref a_changes, .ref a_outputs, .ref a_rates, .ref a_quotes, .ref a_accounts, .ref a_calendar, .int k_today])), (a_items, .inr (3, [.ref a_items_orderOf, .ref a_items_agreedRule, .ref a_items_first, .int k_items_count])), (a_items_first, .inl (cI, 360, .inl k_items_first)), (a_changes, .inr (2, [.ref a_changes_field, .ref a_changes_value, .ref a_changes_from, .ref a_changes_told, .ref a_changes_count])), (a_changes_field, .inl (cI, 1200, .inl k_changes_field)), (a_changes_value, .inl (cI, 1200, .inl k_changes_value)), (a_changes_from, .inl (cI, 1200, .inl k_changes_from)), (a_changes_count, .inl (cI, 60, .inl k_changes_count))]) [0, 1, 2, 3, 4, 5, 6, 7] rfl
      refine zq_calli (va_runV (As := [.int p1, .int 5, .int p2]) (rest := [.int p2]) ⟨hx, hb, hml, hown, hts⟩ (zc_Or_valueOn l dC dI cI cZ cL h0 a_orders a_items a_changes a_outputs a_rates a_quotes a_accounts a_calendar a_items_orderOf a_items_agreedRule a_items_first a_changes_field a_changes_value a_changes_from a_changes_told a_changes_count k_items_first k_items_count k_changes_field k_changes_value k_changes_from k_changes_count k_today p1 5 p2 _ h) (cwV 3 hts (zg_V zw_121 zw_122 zw_123 zw_11 zw_124) rfl rfl rfl (by decide +kernel) ⟨Nat.le_of_ble_eq_true rfl, Nat.le_of_ble_eq_true rfl⟩) ⟨zb_p, va_recv hK hPc (ci := 8) (q0 := 0) rfl rfl, zb_preP hPc hK hN⟩ rfl rfl hl.1 rfl (lv_room (Nat.le_of_ble_eq_true rfl)) d_Or_stateOn_41 ⟨Nat.le_of_ble_eq_true rfl, Nat.le_of_ble_eq_true rfl⟩) (fun r6 h => ?_)
      refine lv_icmp_gt (tgt := 51) hx hb d_Or_stateOn_44 (by decide) (fun c7 => ?_) (fun c7 => ?_)
      · have h := h.1 c7
        refine lv_iconst (v := 1) hx hb d_Or_stateOn_51 (by decide) ?_
        exact W.iret (v := 1) hx hb hr (fun t ht hW => ⟨_, rfl, h, ht⟩) (fun q hq => nomatch hq) d_Or_stateOn_52
      · have h := h.2 c7
        refine lv_iconst (v := 0) hx hb d_Or_stateOn_47 (by decide) ?_
        refine lv_goto (tgt := 52) hx hb d_Or_stateOn_48 (by decide) ?_
        exact W.iret (v := 0) hx hb hr (fun t ht hW => ⟨_, rfl, h, ht⟩) (fun q hq => nomatch hq) d_Or_stateOn_52
    · have h := h.2 c5
      refine lv_iconst (v := 2) hx hb d_Or_stateOn_34 (by decide) ?_
      exact W.iret (v := 2) hx hb hr (fun t ht hW => ⟨_, rfl, h, ht⟩) (fun q hq => nomatch hq) d_Or_stateOn_35
  · have h := h.2 c3
    refine lv_iconst (v := 3) hx hb d_Or_stateOn_21 (by decide) ?_
    exact W.iret (v := 3) hx hb hr (fun t ht hW => ⟨_, rfl, h, ht⟩) (fun q hq => nomatch hq) d_Or_stateOn_22
set_option maxHeartbeats 4000000 in
set_option maxRecDepth 100000 in
theorem zc_Or_isRate (l : Launch) (dC : Nat → ClassId) (dI : Nat → Nat → Nat) (cI cZ cL : ClassId) (p1 : Int32) (P : Int32 → Prop) (h : zp_Or_isRate p1 P) : Met l y_Or_isRate w_Or_isRate ({ frames := 1, cells := 0, slots := 0, locals := 22 }) (va_Pc [.int p1] (fun U => va_P (dC, dI) vwCl [] U.heap ∧ va_K (dC, dI) vwCl [(cI, .int), (cZ, .boolean), (cL, .long)] U ∧ zn_ok U)) (zq_Ri P) 0 0 (fun _ => False) := by
  refine Met.ofW (cc := b_Or_isRate) (maxL := 1) (ret := (some .boolean)) (by decide) rfl ?_
  intro p e s m args below meth c s₁ B hml hv
  obtain ⟨rfl, hP, hK, hN⟩ := hv
  have hx := B.exec
  have hb := B.bytes
  have hr := B.returns
  have hts0 := atoms_spec (ws := w_Or_isRate) B.pre
  have hts : ∀ w ∈ zw_T, w.before ([.int p1] : List Value).toArray s = true := fun w h => hts0 w (List.mem_cons_of_mem _ h)
  have hown : s.vm.findClass R_Or = some m.cls := findClass_of_methodNamed B.named
  have hlocks := B.notSynchronized
  have hl := lv_entry ([.int p1]) (n := 1) (Nat.le_of_ble_eq_true rfl)
  rw [lg_entry_eq]
  generalize (lg_sl ([.int p1]) ++ List.replicate (1 - (lg_sl ([.int p1])).length) Slot.unset).toArray = ls at hl ⊢
  have hl : lv_has ls 1 [(0, .int p1)] := hl
  unfold zp_Or_isRate at h
  refine lv_iload_n hx hb d_Or_isRate_0 rfl (lv_at hl 0 rfl) ?_
  refine lv_iconst (v := 0) hx hb d_Or_isRate_1 (by decide) ?_
  refine lv_ldcw (v := 100000) hx hb hown (hts _ zw_72) d_Or_isRate_2 ?_
  have hPc := hP.sub (ws' := []) [] rfl
  refine zq_calli (va_runS (As := [.int p1, .int 0, .int 100000]) (rest := []) ⟨hx, hb, hml, hown, hts⟩ (zc_Or_isWithin l dC dI cI cZ cL p1 0 100000 _ h) (cwS 3 hts (zg_S zw_48 zw_12 zw_11 zw_10) rfl rfl rfl (by decide +kernel) ⟨Nat.le_of_ble_eq_true rfl, Nat.le_of_ble_eq_true rfl⟩) ⟨zb_p, zb_preP hPc hK hN⟩ rfl rfl hl.1 rfl (lv_room (Nat.le_of_ble_eq_true rfl)) d_Or_isRate_5 ⟨Nat.le_of_ble_eq_true rfl, Nat.le_of_ble_eq_true rfl⟩) (fun r1 h => ?_)
  exact W.zret (v := r1) (ty := .boolean) hx hb hr h.1 (fun t ht hW => ⟨_, rfl, h.2, ht⟩) (fun q hq => nomatch hq) d_Or_isRate_8
