
theorem zk_arrI {args : Array Value} {s : State} (h : (Cond.arrayClass .int).before args s = true) : ∃ cA : ClassId, ArrOfT s cA .int ∧ va_RA s cA .int := by
  obtain ⟨c, k, comp, h1, h2, h3⟩ := Cond.arrayClass_spec h
  exact ⟨c, fun n z => ⟨fun k h => (by cases h), k, h2, comp, h3⟩, h1⟩
theorem zk_arrZ {args : Array Value} {s : State} (h : (Cond.arrayClass .boolean).before args s = true) : ∃ cA : ClassId, ArrOfT s cA .boolean ∧ va_RA s cA .boolean := by
  obtain ⟨c, k, comp, h1, h2, h3⟩ := Cond.arrayClass_spec h
  exact ⟨c, fun n z => ⟨fun k h => (by cases h), k, h2, comp, h3⟩, h1⟩
theorem zk_arrL {args : Array Value} {s : State} (h : (Cond.arrayClass .long).before args s = true) : ∃ cA : ClassId, ArrOfT s cA .long ∧ va_RA s cA .long := by
  obtain ⟨c, k, comp, h1, h2, h3⟩ := Cond.arrayClass_spec h
  exact ⟨c, fun n z => ⟨fun k h => (by cases h), k, h2, comp, h3⟩, h1⟩
theorem zk_str {args : Array Value} {s : State} {own tx : String} {k : Nat} (h : (Cond.stringRef own k tx).before args s = true) : ∃ sa, vk_R own k tx sa s := by
  have hcur : ∃ cur, s.vm.findClass own = some cur := by
    have h1 := h
    simp only [Cond.before, Cond.holds, Cond.value] at h1
    cases hc : s.vm.findClass own with
    | none => simp [hc] at h1
    | some cur => exact ⟨cur, rfl⟩
  obtain ⟨cur, hcur⟩ := hcur
  obtain ⟨k9, cf, i, a9, hk, hcf, hcp, -, hr, hev⟩ := Cond.stringRef_spec hcur h
  exact ⟨a9, vk_R.of h hev⟩
set_option maxHeartbeats 8000000 in
set_option maxRecDepth 100000 in
theorem zl_env {p : Program} {s : State} {m : MethodId} {meth : Method} {c : Code} {b L : Nat} {xs : Nat → Int32} (C0 : lw_At p s m meth c b L xs) : ∃ (dC : Nat → ClassId) (dI : Nat → Nat → Nat) (cI cZ cL : ClassId), va_K (dC, dI) vwCl [(cI, .int), (cZ, .boolean), (cL, .long)] s ∧ zn_ok s ∧ zt_ok s ∧ zl_ok s := by
  obtain ⟨hx, hb, hr, hml, hown, hts1, hX, hbl, hlocks, hgv⟩ := C0
  have hts : ∀ w ∈ zw_T, w.before #[Value.ref b] s = true := fun w h => hts1 w (List.mem_filter.mp h).1
  have hs := flat_of_before _ hgv
  have hN : zn_ok s := ⟨va_Nw.of rfl (hts1 _ (List.mem_append_right _ (List.mem_of_getElem? (i := 470) (by decide +kernel)))), va_Nw.of rfl (hts1 _ (List.mem_append_right _ (List.mem_of_getElem? (i := 393) (by decide +kernel)))), va_Nw.of rfl (hts1 _ (List.mem_append_right _ (List.mem_of_getElem? (i := 369) (by decide +kernel)))), va_Nw.of rfl (hts1 _ (List.mem_append_right _ (List.mem_of_getElem? (i := 586) (by decide +kernel)))), va_Nw.of rfl (hts1 _ (List.mem_append_right _ (List.mem_of_getElem? (i := 29) (by decide +kernel)))), va_Nw.of rfl (hts1 _ (List.mem_append_right _ (List.mem_of_getElem? (i := 52) (by decide +kernel)))), va_Nw.of rfl (hts1 _ (List.mem_append_right _ (List.mem_of_getElem? (i := 74) (by decide +kernel)))), va_Nw.of rfl (hts1 _ (List.mem_append_right _ (List.mem_of_getElem? (i := 96) (by decide +kernel)))), va_Nw.of rfl (hts1 _ (List.mem_append_right _ (List.mem_of_getElem? (i := 120) (by decide +kernel)))), va_Nw.of rfl (hts1 _ (List.mem_append_right _ (List.mem_of_getElem? (i := 136) (by decide +kernel)))), va_Nw.of rfl (hts1 _ (List.mem_append_right _ (List.mem_of_getElem? (i := 165) (by decide +kernel)))), va_Nw.of rfl (hts1 _ (List.mem_append_right _ (List.mem_of_getElem? (i := 180) (by decide +kernel))))⟩
  have hZ : zt_ok s := ⟨⟨zt_isRef rfl rfl (hs zt_h1 (by decide +kernel)), zt_isRef rfl rfl (hs zt_h2 (by decide +kernel)), zt_lays rfl rfl (hts1 _ (List.mem_append_right _ (List.mem_of_getElem? (i := 270) (by decide +kernel)))), zt_lays rfl rfl (hts1 _ (List.mem_append_right _ (List.mem_of_getElem? (i := 272) (by decide +kernel)))), va_Nw.of rfl (hts1 _ (List.mem_append_right _ (List.mem_of_getElem? (i := 245) (by decide +kernel)))), va_Nw.of rfl (hts1 _ (List.mem_append_right _ (List.mem_of_getElem? (i := 433) (by decide +kernel)))), va_Nw.of rfl (hts1 _ (List.mem_append_right _ (List.mem_of_getElem? (i := 321) (by decide +kernel)))), va_Nw.of rfl (hts1 _ (List.mem_append_right _ (List.mem_of_getElem? (i := 340) (by decide +kernel)))), va_Nw.of rfl (hts1 _ (List.mem_append_right _ (List.mem_of_getElem? (i := 247) (by decide +kernel)))), va_Nw.of rfl (hts1 _ (List.mem_append_right _ (List.mem_of_getElem? (i := 249) (by decide +kernel)))), va_Nw.of rfl (hts1 _ (List.mem_append_right _ (List.mem_of_getElem? (i := 251) (by decide +kernel))))⟩, zk_str (hts1 _ (List.mem_append_right _ (List.mem_of_getElem? (i := 285) (by decide +kernel)))), zk_str (hts1 _ (List.mem_append_right _ (List.mem_of_getElem? (i := 328) (by decide +kernel)))), zk_str (hts1 _ (List.mem_append_right _ (List.mem_of_getElem? (i := 347) (by decide +kernel)))), zk_str (hts1 _ (List.mem_append_right _ (List.mem_of_getElem? (i := 440) (by decide +kernel))))⟩
  have hC : zl_ok s := ⟨va_Nc.of (hs (.not (.castable "java/lang/IllegalArgumentException" "java/lang/IndexOutOfBoundsException")) (by decide +kernel)), va_Nc.of (hs (.not (.castable "java/lang/UnsupportedOperationException" "java/lang/IndexOutOfBoundsException")) (by decide +kernel)), va_Nc.of (hs (.not (.castable "java/lang/UnsupportedOperationException" "java/lang/IllegalArgumentException")) (by decide +kernel)), va_Nc.of (hs (.not (.castable "java/lang/IllegalStateException" "java/lang/IndexOutOfBoundsException")) (by decide +kernel)), va_Nc.of (hs (.not (.castable "java/lang/IllegalArgumentException" "java/lang/IllegalStateException")) (by decide +kernel)), va_Nc.of (hs (.not (.castable "java/lang/UnsupportedOperationException" "java/lang/IllegalStateException")) (by decide +kernel))⟩
  obtain ⟨c0, iS0, hKn0⟩ := u_known (C := R_Acc) (T := F_Acc) (N := 2) (n := 2) hts zl_Acc (hts _ zw_482)
  obtain ⟨c1, iS1, hKn1⟩ := u_known (C := R_Cal) (T := F_Cal) (N := 4) (n := 4) hts zl_Cal (hts _ zw_487)
  obtain ⟨c2, iS2, hKn2⟩ := u_known (C := R_Chg) (T := F_Chg) (N := 5) (n := 5) hts zl_Chg (hts _ zw_466)
  obtain ⟨c3, iS3, hKn3⟩ := u_known (C := R_Itm) (T := F_Itm) (N := 4) (n := 4) hts zl_Itm (hts _ zw_462)
  obtain ⟨c4, iS4, hKn4⟩ := u_known (C := R_Ord) (T := F_Ord) (N := 4) (n := 4) hts zl_Ord (hts _ zw_458)
  obtain ⟨c5, iS5, hKn5⟩ := u_known (C := R_Out) (T := F_Out) (N := 5) (n := 5) hts zl_Out (hts _ zw_470)
  obtain ⟨c6, iS6, hKn6⟩ := u_known (C := R_Quo) (T := F_Quo) (N := 5) (n := 5) hts zl_Quo (hts _ zw_478)
  obtain ⟨c7, iS7, hKn7⟩ := u_known (C := R_Rat) (T := F_Rat) (N := 3) (n := 3) hts zl_Rat (hts _ zw_474)
  obtain ⟨c8, iS8, hKn8⟩ := u_known (C := R_Or) (T := F_Or) (N := 9) (n := 9) hts zl_Or (hts _ zw_658)
  obtain ⟨c9, iS9, hKn9⟩ := u_known (C := R_Mo) (T := F_Mo) (N := 31) (n := 31) hts zl_Mo (hts _ zw_663)
  obtain ⟨cI, hI1, hI2⟩ := zk_arrI (hts _ zw_444)
  obtain ⟨cZ, hZ1, hZ2⟩ := zk_arrZ (hts _ zw_449)
  obtain ⟨cL, hL1, hL2⟩ := zk_arrL (hts _ zw_446)
  refine ⟨fun k => if k = 0 then c0 else if k = 1 then c1 else if k = 2 then c2 else if k = 3 then c3 else if k = 4 then c4 else if k = 5 then c5 else if k = 6 then c6 else if k = 7 then c7 else if k = 8 then c8 else c9, fun k => if k = 0 then iS0 else if k = 1 then iS1 else if k = 2 then iS2 else if k = 3 then iS3 else if k = 4 then iS4 else if k = 5 then iS5 else if k = 6 then iS6 else if k = 7 then iS7 else if k = 8 then iS8 else iS9, cI, cZ, cL, ⟨?_, ?_⟩, hN, hZ, hC⟩
  · intro k q hq
    match k, hq with
    | 0, hq => cases hq; exact hKn0
    | 1, hq => cases hq; exact hKn1
    | 2, hq => cases hq; exact hKn2
    | 3, hq => cases hq; exact hKn3
    | 4, hq => cases hq; exact hKn4
    | 5, hq => cases hq; exact hKn5
    | 6, hq => cases hq; exact hKn6
    | 7, hq => cases hq; exact hKn7
    | 8, hq => cases hq; exact hKn8
    | 9, hq => cases hq; exact hKn9
    | k + 10, hq => simp [vwCl] at hq
  · intro k q hq
    match k, hq with
    | 0, hq => cases hq; exact ⟨hI1, hI2⟩
    | 1, hq => cases hq; exact ⟨hZ1, hZ2⟩
    | 2, hq => cases hq; exact ⟨hL1, hL2⟩
    | k + 3, hq => simp at hq
