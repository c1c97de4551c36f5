/-! The law's own calls: the heap has grown since the start, nothing old has changed. -/
theorem zl_laysG {O f d : String} {A A' : Array Value} {s U : State} (hh : ∀ q : Nat, q < s.heap.size → U.heap[q]? = s.heap[q]?) (hv : U.vm = s.vm) (h : (Cond.laysStatic O f d).before A s = true) : (Cond.laysStatic O f d).before A' U = true := by
  obtain ⟨c, k, i, fd, a, cell, hc, hf, hst, hsta, hcell, hiss, hcls, hlt, hty⟩ := Cond.laysStatic_spec h
  have hf' : U.fieldFound? O f d = some (c, k, i, fd) := by rw [← hf]; simp only [State.fieldFound?, hv]
  have hcell' : U.heap[a]? = some cell := by rw [hh a (Array.getElem?_eq_some_iff.mp hcell).1]; exact hcell
  rw [← hv] at hc
  simp [Cond.before, Cond.holds, Cond.value, hc, hf', hst, hsta, hcell', hiss, hcls, hlt, hty]
theorem zl_isRefG {O f d : String} {A A' : Array Value} {s U : State} (hh : ∀ q : Nat, q < s.heap.size → U.heap[q]? = s.heap[q]?) (hv : U.vm = s.vm) (hl : (Cond.laysStatic O f d).before A s = true) (h : (Cond.isRef (.static O f d)).before A s = true) : (Cond.isRef (.static O f d)).before A' U = true := by
  obtain ⟨c, k, i, fd, a, cell, hc, hf, hst, hsta, hcell, hiss, hcls, hlt, hty⟩ := Cond.laysStatic_spec hl
  have hf' : U.fieldFound? O f d = some (c, k, i, fd) := by rw [← hf]; simp only [State.fieldFound?, hv]
  have hcell' : U.heap[a]? = some cell := by rw [hh a (Array.getElem?_eq_some_iff.mp hcell).1]; exact hcell
  have e1 : (Term.static O f d).eval A s none [] s = cell.slots[fd.slot]? := by simp [Term.eval, State.fieldNamed?, hf, hst, hsta, hcell, hiss]
  have e2 : (Term.static O f d).eval A' U none [] U = cell.slots[fd.slot]? := by simp [Term.eval, State.fieldNamed?, hf', hst, hsta, hcell', hiss]
  simp only [Cond.before, Cond.holds, Cond.value, e1] at h
  simp only [Cond.before, Cond.holds, Cond.value, e2]
  exact h
theorem zl_w {s U : State} (hh : ∀ q : Nat, q < s.heap.size → U.heap[q]? = s.heap[q]?) (hW : s.WarmedH U.vm) (h : zt_w s) : zt_w U := by
  have h1 : zt_w (s.setVm U.vm) := zt_w_move (s := s) (U := s.setVm U.vm) rfl hW h
  obtain ⟨h1, h2, h3, h4, h5, h6, h7, h8, h9, h10, h11⟩ := h1
  exact ⟨zl_isRefG (s := s.setVm U.vm) hh rfl h3 h1, zl_isRefG (s := s.setVm U.vm) hh rfl h4 h2, zl_laysG (s := s.setVm U.vm) hh rfl h3, zl_laysG (s := s.setVm U.vm) hh rfl h4, va_Nw.same (u := s.setVm U.vm) rfl rfl h5, va_Nw.same (u := s.setVm U.vm) rfl rfl h6, va_Nw.same (u := s.setVm U.vm) rfl rfl h7, va_Nw.same (u := s.setVm U.vm) rfl rfl h8, va_Nw.same (u := s.setVm U.vm) rfl rfl h9, va_Nw.same (u := s.setVm U.vm) rfl rfl h10, va_Nw.same (u := s.setVm U.vm) rfl rfl h11⟩
theorem zl_t {s U : State} (hh : ∀ q : Nat, q < s.heap.size → U.heap[q]? = s.heap[q]?) (hW : s.WarmedH U.vm) (h : zt_ok s) : zt_ok U := ⟨zl_w hh hW h.1, ⟨h.2.1.choose, vk_R.warm hW h.2.1.choose_spec⟩, ⟨h.2.2.1.choose, vk_R.warm hW h.2.2.1.choose_spec⟩, ⟨h.2.2.2.1.choose, vk_R.warm hW h.2.2.2.1.choose_spec⟩, ⟨h.2.2.2.2.choose, vk_R.warm hW h.2.2.2.2.choose_spec⟩⟩
section ZLB
variable {av : List Value} {D : va_G} {cl : List vw_C} {ws : va_W} {tys : List (ClassId × FieldType)} {s : State} {sz : Nat} {H : Heap}
theorem zb_l : FrameBlind (va_Pc av (fun U => U.heap.size = sz ∧ va_P D cl ws U.heap ∧ va_K D cl tys U ∧ va_D (fun _ => True) ws ∧ zn_ok U ∧ zt_ok U ∧ zl_ok U)) :=
  fun a U g mk q => ⟨q.1, q.2.1, q.2.2.1, va_K.moved (u := U) (U := U.calling g mk a) (Vm.Alike.refl U.vm) q.2.2.2.1, q.2.2.2.2.1, zn_same (s := U) (U := U.calling g mk a) rfl q.2.2.2.2.2.1, zt_same (s := U) (U := U.calling g mk a) rfl rfl q.2.2.2.2.2.2.1, zl_moved (s := U) (U := U.calling g mk a) (Vm.Alike.refl U.vm) q.2.2.2.2.2.2.2⟩
theorem zb_preL {A : Nat → Prop} (hH : ∀ q : Nat, q < s.heap.size → H[q]? = s.heap[q]?) (hP : va_P D cl ws H) (hK : va_K D cl tys s) (hD : va_D A ws) (hN : zn_ok s) (hZ : zt_ok s) (hC : zl_ok s) : ∀ U : State, U.heap = H → s.WarmedH U.vm → va_Pc av (fun U => U.heap.size = H.size ∧ va_P D cl ws U.heap ∧ va_K D cl tys U ∧ va_D (fun _ => True) ws ∧ zn_ok U ∧ zt_ok U ∧ zl_ok U) av.toArray U :=
  fun U hU hW => ⟨rfl, by rw [hU], by rw [hU]; exact hP, va_K.moved hW.alike hK, hD.weaken (fun _ _ _ _ => trivial), zn_warm hW hN, zl_t (fun q hq => by rw [hU]; exact hH q hq) hW hZ, zl_moved hW.alike hC⟩
end ZLB
/-- a call that came back: its cells hold what it says, at their places; the others are as they were -/
theorem zl_join {A0 : Nat → Prop} {D : va_G} {cl : List vw_C} {ws wc w1 wr ws' : va_W} {H H1 : Heap} (hP : va_P D cl ws H) (hD : va_D A0 ws) (isC isR : List Nat) (n : Nat) (hC : isC.map (fun i => ws[i]?) = wc.map some) (h1 : isC.map (fun i => ws'[i]?) = w1.map some) (hR : isR.map (fun i => ws[i]?) = wr.map some) (hR' : isR.map (fun i => ws'[i]?) = wr.map some)
    (hn : ws'.length = n) (hall : ∀ i, i < n → i ∈ isC ∨ i ∈ isR) (ha : ws'.map Prod.fst = ws.map Prod.fst) (hk : ∀ q : Nat, q < H.size → ¬ va_A wc H.size q → H1[q]? = H[q]?) (hP1 : va_P D cl w1 H1) : va_P D cl ws' H1 ∧ va_D A0 ws' := by
  have h2 := hR'.trans hR.symm
  refine ⟨fun k q hq => ?_, ?_⟩
  · have hkl : k < n := by rw [← hn]; exact (List.getElem?_eq_some_iff.mp hq).1
    by_cases hc : k ∈ isC
    · obtain ⟨i, hi⟩ := List.getElem?_of_mem hc
      have e1 : (isC.map (fun i => ws'[i]?))[i]? = some (ws'[k]?) := by rw [List.getElem?_map, hi]; rfl
      rw [h1, List.getElem?_map, hq] at e1
      cases hw : w1[i]? with
      | none => rw [hw] at e1; cases e1
      | some z =>
        rw [hw] at e1
        have hz : z = q := Option.some.inj (Option.some.inj e1)
        subst hz
        exact hP1 i _ hw
    · have hr : k ∈ isR := (hall k hkl).resolve_left hc
      have e : ws'[k]? = ws[k]? := by
        obtain ⟨i, hi⟩ := List.getElem?_of_mem hr
        have e1 : (isR.map (fun i => ws'[i]?))[i]? = (isR.map (fun i => ws[i]?))[i]? := by rw [h2]
        rw [List.getElem?_map, List.getElem?_map, hi] at e1
        exact Option.some.inj e1
      have hq0 : ws[k]? = some q := by rw [← e]; exact hq
      refine va_at.kept (hP k q hq0) (hk q.1 ((hP k q hq0).lt) ?_)
      rintro (⟨i, e9, hi⟩ | hs)
      · have h9 : (isC.map (fun i => ws[i]?))[i]? = some (some (q.1, e9)) := by rw [hC, List.getElem?_map, hi]; rfl
        rw [List.getElem?_map] at h9
        cases hj : isC[i]? with
        | none => rw [hj] at h9; cases h9
        | some j =>
          rw [hj] at h9
          have hj9 : ws[j]? = some (q.1, e9) := Option.some.inj h9
          have hjk := hD.1 j k _ _ hj9 hq0 rfl
          subst hjk
          exact hc (List.mem_of_getElem? hj)
      · exact absurd ((hP k q hq0).lt) (Nat.not_lt.mpr hs)
  · have hf : ∀ (k : Nat) (q : Nat × va_E), ws'[k]? = some q → ∃ q0, ws[k]? = some q0 ∧ q0.1 = q.1 := by
      intro k q hq
      have e1 : (ws'.map Prod.fst)[k]? = (ws.map Prod.fst)[k]? := by rw [ha]
      rw [List.getElem?_map, List.getElem?_map, hq] at e1
      cases h0 : ws[k]? with
      | none => rw [h0] at e1; cases e1
      | some q0 => rw [h0] at e1; exact ⟨q0, rfl, (Option.some.inj e1).symm⟩
    refine ⟨fun i j p q hp hq e => ?_, fun k q hq => ?_⟩
    · obtain ⟨p0, hp0, ep⟩ := hf i p hp
      obtain ⟨q0, hq0, eq⟩ := hf j q hq
      exact hD.1 i j p0 q0 hp0 hq0 (by rw [ep, eq]; exact e)
    · obtain ⟨q0, h0, e0⟩ := hf k q hq
      rw [← e0]
      exact hD.2 k q0 h0
/-- a place of the script -/
theorem zl_in {L j k : Nat} {v : Int32} (hv : v = nI (6 * j)) (hj : 6 * j + 6 ≤ L) (hL : L ≤ 3072) (hk : k < 6) : vp_in (v + nI k) L := by
  rw [hv, nI_add]
  exact vp_in_nI (by omega) (by omega)

