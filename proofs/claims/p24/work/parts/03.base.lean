def zn_ok (U : State) : Prop := va_Nw (.methodLinkNest R_Chg 27 y_Or_isWithin "OrderRows") U ∧ va_Nw (.methodLinkNest R_Itm 25 y_Or_isWithin "OrderRows") U ∧ va_Nw (.methodLinkNest R_Ord 25 y_Or_isWithin "OrderRows") U ∧ va_Nw (.methodLinkNest R_Quo 30 y_Or_isWithin "OrderRows") U ∧ va_Nw (.methodLinkNest R_Or 9 y_Ord_init "OrderRows") U ∧ va_Nw (.methodLinkNest R_Or 18 y_Itm_init "OrderRows") U ∧ va_Nw (.methodLinkNest R_Or 25 y_Chg_init "OrderRows") U ∧ va_Nw (.methodLinkNest R_Or 32 y_Out_init "OrderRows") U ∧ va_Nw (.methodLinkNest R_Or 39 y_Rat_init "OrderRows") U ∧ va_Nw (.methodLinkNest R_Or 46 y_Quo_init "OrderRows") U ∧ va_Nw (.methodLinkNest R_Or 53 y_Acc_init "OrderRows") U ∧ va_Nw (.methodLinkNest R_Or 60 y_Cal_init "OrderRows") U
theorem zn_warm {s U : State} (hW : s.WarmedH U.vm) (h : zn_ok s) : zn_ok U := ⟨va_Nw.warmM hW h.1, va_Nw.warmM hW h.2.1, va_Nw.warmM hW h.2.2.1, va_Nw.warmM hW h.2.2.2.1, va_Nw.warmM hW h.2.2.2.2.1, va_Nw.warmM hW h.2.2.2.2.2.1, va_Nw.warmM hW h.2.2.2.2.2.2.1, va_Nw.warmM hW h.2.2.2.2.2.2.2.1, va_Nw.warmM hW h.2.2.2.2.2.2.2.2.1, va_Nw.warmM hW h.2.2.2.2.2.2.2.2.2.1, va_Nw.warmM hW h.2.2.2.2.2.2.2.2.2.2.1, va_Nw.warmM hW h.2.2.2.2.2.2.2.2.2.2.2⟩
theorem zn_same {s U : State} (hv : s.vm = U.vm) (h : zn_ok s) : zn_ok U := ⟨va_Nw.same rfl hv h.1, va_Nw.same rfl hv h.2.1, va_Nw.same rfl hv h.2.2.1, va_Nw.same rfl hv h.2.2.2.1, va_Nw.same rfl hv h.2.2.2.2.1, va_Nw.same rfl hv h.2.2.2.2.2.1, va_Nw.same rfl hv h.2.2.2.2.2.2.1, va_Nw.same rfl hv h.2.2.2.2.2.2.2.1, va_Nw.same rfl hv h.2.2.2.2.2.2.2.2.1, va_Nw.same rfl hv h.2.2.2.2.2.2.2.2.2.1, va_Nw.same rfl hv h.2.2.2.2.2.2.2.2.2.2.1, va_Nw.same rfl hv h.2.2.2.2.2.2.2.2.2.2.2⟩
/-! Methods that only read: the heap behind them is the one before. Methods that may refuse: nothing old has changed then. -/
def zq_Ri (post : Int32 → Prop) : Array Value → State → Outcome → State → Prop := fun _ st oc t => ∃ r : Int32, oc = .returned (some (.int r)) ∧ post r ∧ t.heap = st.heap
def zq_Rl (post : Int64 → Prop) : Array Value → State → Outcome → State → Prop := fun _ st oc t => ∃ r : Int64, oc = .returned (some (.long r)) ∧ post r ∧ t.heap = st.heap
def zq_Rv (post : Prop) : Array Value → State → Outcome → State → Prop := fun _ st oc t => oc = .returned none ∧ post ∧ t.heap = st.heap
def zx_X (X : String → Prop) : String → State → State → Prop := fun E st t => X E ∧ st.heap.size ≤ t.heap.size ∧ ∀ q : Nat, q < st.heap.size → t.heap[q]? = st.heap[q]?
theorem zq_nil {L : List Loc} (hL : ∀ q ∈ L, False) : L = [] := by
  cases L with
  | nil => rfl
  | cons x xs => exact (hL x List.mem_cons_self).elim
section ZQ
variable {p : Program} {l : Launch} {e : Env} {R : Room} {s : State} {m : MethodId} {args : Array Value} {below : List Frame} {meth : Method} {c : Code} {H : Heap} {locs : List Loc} {cells slots : Nat} {Q : State → Prop}
variable {pc : Nat} {ls : Array Slot} {rest st0 : List Value} {a : Array Value} {mc ms : Nat}
theorem zq_calli {post : Int32 → Prop} (hr : va_Run p l e R s m args below meth c H locs cells slots 0 0 (F0 m pc ls st0) rest (zq_Ri post a) (fun _ => False))
    (kk : ∀ r : Int32, post r → W p l e R s m args below meth c H locs cells slots Q (F0 m (pc + 3) ls (.int r :: rest))) : W p l e R s m args below meth c H locs cells slots Q (F0 m pc ls st0) := by
  intro T hT X
  obtain ⟨v, st₀, t, T', L, h0, X', hL, e1, e2, ⟨r, hv, hp, hh⟩, st⟩ := hr T hT X
  cases hv
  obtain rfl := zq_nil hL
  rw [List.append_nil] at X'
  obtain ⟨t2, a1, b1⟩ := kk r hp T' (by rw [e1, hh, h0]) X'
  exact ⟨t2, st t2 a1, b1⟩
theorem zq_calll {post : Int64 → Prop} (hr : va_Run p l e R s m args below meth c H locs cells slots 0 0 (F0 m pc ls st0) rest (zq_Rl post a) (fun _ => False))
    (kk : ∀ r : Int64, post r → W p l e R s m args below meth c H locs cells slots Q (F0 m (pc + 3) ls (.long r :: rest))) : W p l e R s m args below meth c H locs cells slots Q (F0 m pc ls st0) := by
  intro T hT X
  obtain ⟨v, st₀, t, T', L, h0, X', hL, e1, e2, ⟨r, hv, hp, hh⟩, st⟩ := hr T hT X
  cases hv
  obtain rfl := zq_nil hL
  rw [List.append_nil] at X'
  obtain ⟨t2, a1, b1⟩ := kk r hp T' (by rw [e1, hh, h0]) X'
  exact ⟨t2, st t2 a1, b1⟩
theorem zq_callv {post : Prop} (hr : va_Run p l e R s m args below meth c H locs cells slots 0 0 (F0 m pc ls st0) rest (zq_Rv post a) (fun _ => False))
    (kk : post → W p l e R s m args below meth c H locs cells slots Q (F0 m (pc + 3) ls rest)) : W p l e R s m args below meth c H locs cells slots Q (F0 m pc ls st0) := by
  intro T hT X
  obtain ⟨v, st₀, t, T', L, h0, X', hL, e1, e2, ⟨hv, hp, hh⟩, st⟩ := hr T hT X
  cases hv
  obtain rfl := zq_nil hL
  rw [List.append_nil] at X'
  obtain ⟨t2, a1, b1⟩ := kk hp T' (by rw [e1, hh, h0]) X'
  exact ⟨t2, st t2 a1, b1⟩
end ZQ
section ZB
variable {av : List Value} {D : va_G} {cl : List vw_C} {ws : va_W} {tys : List (ClassId × FieldType)} {s : State} {H : Heap} {sz : Nat}
theorem zb_p : FrameBlind (va_Pc av (fun U => va_P D cl ws U.heap ∧ va_K D cl tys U ∧ zn_ok U)) :=
  fun a U g mk q => ⟨q.1, q.2.1, va_K.moved (u := U) (U := U.calling g mk a) (Vm.Alike.refl U.vm) q.2.2.1, zn_same (s := U) (U := U.calling g mk a) rfl q.2.2.2⟩
theorem zb_preP (hP : va_P D cl ws H) (hK : va_K D cl tys s) (hN : zn_ok s) : ∀ U : State, U.heap = H → s.WarmedH U.vm → va_Pc av (fun U => va_P D cl ws U.heap ∧ va_K D cl tys U ∧ zn_ok U) av.toArray U :=
  fun U hU hW => ⟨rfl, by rw [hU]; exact hP, va_K.moved hW.alike hK, zn_warm hW hN⟩
theorem zb_w : FrameBlind (va_Pc av (fun U => U.heap.size = sz ∧ va_P D cl ws U.heap ∧ va_K D cl tys U ∧ va_D (fun _ => True) ws ∧ zn_ok U)) :=
  fun a U g mk q => ⟨q.1, q.2.1, q.2.2.1, va_K.moved (u := U) (U := U.calling g mk a) (Vm.Alike.refl U.vm) q.2.2.2.1, q.2.2.2.2.1, zn_same (s := U) (U := U.calling g mk a) rfl q.2.2.2.2.2⟩
theorem zb_preW {A : Nat → Prop} (hP : va_P D cl ws H) (hK : va_K D cl tys s) (hD : va_D A ws) (hN : zn_ok s) : ∀ U : State, U.heap = H → s.WarmedH U.vm → va_Pc av (fun U => U.heap.size = H.size ∧ va_P D cl ws U.heap ∧ va_K D cl tys U ∧ va_D (fun _ => True) ws ∧ zn_ok U) av.toArray U :=
  fun U hU hW => ⟨rfl, by rw [hU], by rw [hU]; exact hP, va_K.moved hW.alike hK, hD.weaken (fun _ _ _ _ => trivial), zn_warm hW hN⟩
end ZB
/-! the words of a call, out of the one list -/
theorem zg_T : GoodIn zw_T zw_T := fun w h => ⟨h, good_of_word (List.mem_filter.mp h).2⟩
theorem zg_one {w : Cond} (h : w ∈ zw_T) : w ∈ zw_T ∧ ((w.onTables && w.keeps) = true ∨ ∃ ty, w = .arrayClass ty) := zg_T w h
theorem zg_N {y : MethodName} {b : ByteArray} {n : Nat} {r : Option FieldType} (h : Cond.code y b n r ∈ zw_T) : GoodIn zw_T (Cond.code y b n r :: zw_T) := by
  intro w hw
  rcases List.mem_cons.mp hw with rfl | hw
  · exact zg_one h
  · exact zg_one hw
theorem zg_V {own C : String} {i : Nat} {y : MethodName} {b : ByteArray} {n : Nat} {r : Option FieldType} (h1 : Cond.methodLink own i y ∈ zw_T) (h2 : Cond.instanceMethod y ∈ zw_T) (h3 : Cond.selects C y y ∈ zw_T) (h4 : Cond.initialized C ∈ zw_T) (h5 : Cond.code y b n r ∈ zw_T) :
    GoodIn zw_T (wsV own i C y (Cond.code y b n r :: zw_T)) := by
  intro w hw
  rcases List.mem_append.mp hw with hw | hw
  · simp only [List.mem_cons, List.not_mem_nil, or_false] at hw
    rcases hw with rfl | rfl | rfl | rfl
    · exact zg_one h1
    · exact zg_one h2
    · exact zg_one h3
    · exact zg_one h4
  · exact zg_N h5 w hw
theorem zg_S {own : String} {i : Nat} {y : MethodName} {b : ByteArray} {n : Nat} {r : Option FieldType} (h1 : Cond.methodLink own i y ∈ zw_T) (h2 : Cond.static y ∈ zw_T) (h4 : Cond.initialized own ∈ zw_T) (h5 : Cond.code y b n r ∈ zw_T) :
    GoodIn zw_T (wsS own i y (Cond.code y b n r :: zw_T)) := by
  intro w hw
  rcases List.mem_append.mp hw with hw | hw
  · simp only [List.mem_cons, List.not_mem_nil, or_false] at hw
    rcases hw with rfl | rfl | rfl
    · exact zg_one h1
    · exact zg_one h2
    · exact zg_one h4
  · exact zg_N h5 w hw
/-! one class of arrays for each kind of numbers -/
theorem zk_eqI {D : va_G} {cl : List vw_C} {tys : List (ClassId × FieldType)} {U : State} {a b : ClassId} (i j : Nat) (h : va_K D cl tys U) (h1 : tys[i]? = some (a, .int)) (h2 : tys[j]? = some (b, .int)) : a = b :=
  Option.some.inj ((h.2 i _ h1).2.symm.trans (h.2 j _ h2).2)
theorem zk_eqZ {D : va_G} {cl : List vw_C} {tys : List (ClassId × FieldType)} {U : State} {a b : ClassId} (i j : Nat) (h : va_K D cl tys U) (h1 : tys[i]? = some (a, .boolean)) (h2 : tys[j]? = some (b, .boolean)) : a = b :=
  Option.some.inj ((h.2 i _ h1).2.symm.trans (h.2 j _ h2).2)
theorem zk_eqL {D : va_G} {cl : List vw_C} {tys : List (ClassId × FieldType)} {U : State} {a b : ClassId} (i j : Nat) (h : va_K D cl tys U) (h1 : tys[i]? = some (a, .long)) (h2 : tys[j]? = some (b, .long)) : a = b :=
  Option.some.inj ((h.2 i _ h1).2.symm.trans (h.2 j _ h2).2)

/-! Methods that may refuse: they return as others do, or end with one new exception and nothing else changed. -/
def zx_Q (Qc : Array Value → State → Outcome → State → Prop) (X : String → Prop) (free : Addr → Prop) : Array Value → State → Outcome → State → Prop := fun a st o t =>
  (Qc a st o t ∧ ∃ L, FrameEnd st o t L 0 0 ∧ ∀ q ∈ L, free q.base) ∨
  ∃ (q : Addr) (E : String) (ce : Cell), o = .threw q ∧ X E ∧ t.heap[q]? = some ce ∧ ce.vm = .none ∧ st.vm.findClass E = some ce.cls ∧ st.WarmedH t.vm ∧ st.sameButNew ({ t with vm := st.vm } : State) [] 1 6
def zx_Met (l : Launch) (y : MethodName) (ws : List Cond) (rm : Room) (Pc : Array Value → State → Prop) (Qc : Array Value → State → Outcome → State → Prop) (X : String → Prop) (free : Addr → Prop) : Prop :=
  MetFree l y (headSpec ws rm) Pc (fun _ _ _ _ _ => True) (zx_Q Qc X free)
/-- what a body of such a method owes at its end -/
def zx_M (below : List Frame) (Qc : Array Value → State → Outcome → State → Prop) (X : String → Prop) (a : Array Value) (s : State) (free : Addr → Prop) : State → Prop := fun t =>
  ∃ o, t.status = .running ∧ Ended t below o ∧ zx_Q Qc X free a s o t
theorem zx_ofW {l : Launch} {y : MethodName} {ws ws' : List Cond} {rm : Room} {Pc : Array Value → State → Prop} {Qc : Array Value → State → Outcome → State → Prop} {X : String → Prop} {free : Addr → Prop} {cc : ByteArray} {maxL : Nat} {ret : Option FieldType}
    (hy : plainName y.cls = true) (hw : ws = Cond.code y cc maxL ret :: ws')
    (body : ∀ p e s m args below meth c s₁, BodyLoose p l y (headSpec ws rm) cc maxL ret e s m args below meth c s₁ → c.maxLocals = maxL → c.exceptionTable.isEmpty = true → Pc args s →
      W p l e (headSpec ws rm).room s m args below meth c s.heap [] 0 0 (zx_M below Qc X args s free) (entryFrame m args maxL)) : zx_Met l y ws rm Pc Qc X free := by
  refine MetFree.of_bodyS (code := cc) (maxLocals := maxL) (ret := ret) hy ?_ ?_
  · intro args s m h hn
    obtain ⟨meth, c, h1, h2, h3, h4, h5, h6, -, -⟩ := Cond.code_spec hn (atoms_spec (ws := ws) h _ (by rw [hw]; exact List.mem_cons_self))
    exact ⟨meth, c, h1, h2, h3, h4, h5, h6⟩
  · intro p e s m args below meth c s₁ B hml hP _
    have hh0 : s₁.heap = s.heap := by rw [B.state]; rfl
    have hno : c.exceptionTable.isEmpty = true := B.noHandlers (atoms_spec (ws := ws) B.pre _ (by rw [hw]; exact List.mem_cons_self))
    obtain ⟨t, a1, o, b1, b2, b3⟩ := body p e s m args below meth c s₁ B hml hno hP s₁ hh0 (Stand.of_body B)
    exact ⟨t, o, a1, b1, b2, b3⟩
section ZX
variable {p : Program} {l : Launch} {e : Env} {R : Room} {s : State} {m : MethodId} {args : Array Value} {below : List Frame} {meth : Method} {c : Code} {H : Heap} {locs : List Loc} {cells slots : Nat} {Q : State → Prop}
theorem zx_ret {Qc : Array Value → State → Outcome → State → Prop} {X : String → Prop} {free : Addr → Prop} {g : JFrame} (k : W p l e R s m args below meth c H locs 0 0 (MQ below Qc args s 0 0 free) g) : W p l e R s m args below meth c H locs 0 0 (zx_M below Qc X args s free) g := by
  intro T hT X1
  obtain ⟨t, a1, o, b1, b2, b3, b4⟩ := k T hT X1
  exact ⟨t, a1, o, b1, b2, Or.inl ⟨b3, b4⟩⟩
end ZX
section ZXB
variable {l : Launch} {R : Room} {p : Program} {e : Env} {below : List Frame} {s : State} {args : Array Value} {y : MethodName} {m : MethodId} {meth : Method} {c : Code}
/-- a call of such a method, from where the caller stands: it comes back, with no more cells than before; or q is thrown over the caller's frame, one cell more -/
theorem zx_back {ws : List Cond} {rm : Room} {Pc : Array Value → State → Prop} {Qc : Array Value → State → Outcome → State → Prop} {Xc : String → Prop} {free : Addr → Prop} {bytes : ByteArray} {maxL len W9 : Nat} {ret : Option FieldType}
    (hM : zx_Met l y ws rm Pc Qc Xc free) (hblind : FrameBlind Pc) (hrc : rm.cells = 1) (hrs : rm.slots = 6) (hframes : rm.frames + 1 ≤ R.frames) (hlocals : W9 + (maxL + 11) + rm.locals ≤ R.locals)
    (hws : ∀ w ∈ ws, ∀ (a' : Array Value) (U : State), s.WarmedH U.vm → w.before a' U = true) (hcode : Cond.code y bytes maxL ret ∈ ws) (hinit : ∀ (a' : Array Value) (U : State), s.WarmedH U.vm → (Cond.initialized y.cls).before a' U = true)
    {U : State} {locs : List Loc} {cells slots : Nat} (X : Stand p l e R s m args below meth c U locs cells slots) {g : JFrame} {ig : Instr} {mk : MethodId} {a : Array Value} (hg : g.method = m) (hsize : g.locals.size = c.maxLocals) (hdg : decode c.code g.pc = .ok (ig, len))
    (hW : 2 * g.monitorRoom + (g.stack.map fun v => v.category).sum ≤ W9) (hn : U.methodNamed? y = some mk) (hc : cells + 1 ≤ R.cells) (hs : slots + 6 ≤ R.slots) (hp : Pc a U) :
    (∃ (v : Option Value) (t T' : State) (L : List Loc), Stand p l e R s m args below meth c T' (locs ++ L) cells slots ∧ (∀ q ∈ L, free q.base) ∧ T'.heap = t.heap ∧ T'.vm = t.vm ∧ Qc a (U.calling g mk a) (.returned v) t ∧
      Steps p.tables e below (doInvoke e (U.setTop g) [] mk a).1 (T'.setTop { g with pc := g.pc + len, stack := v.toList ++ g.stack })) ∨
    (∃ (q : Addr) (E : String) (ce : Cell) (T' : State), Xc E ∧ Stand p l e R s m args below meth c T' locs (cells + 1) (slots + 6) ∧ T'.heap[q]? = some ce ∧ ce.vm = .none ∧ U.vm.findClass E = some ce.cls ∧ U.sameButNew ({ T' with vm := U.vm } : State) [] 1 6 ∧
      Steps p.tables e below (doInvoke e (U.setTop g) [] mk a).1 ((T'.setTop g).pushFrame (.throwing q))) := by
  subst hg
  have h2 : (Cond.code y bytes maxL ret).before a U = true := hws _ hcode _ _ X.warmed
  obtain ⟨methY, cY, hmY, hcY, -, hlY, -, -, -, -⟩ := Cond.code_spec hn h2
  obtain ⟨kY, hkY, -⟩ := className_of_methodNamed hn
  have hinitY : kY.init = .initialized := Cond.initialized_spec (findClass_of_methodNamed hn) hkY (hinit a U X.warmed)
  have hroom : (headSpec ws rm).room = rm := rfl
  have happ : (headSpec ws rm).appliesLoose y e.platform (U.calling g mk a) = true :=
    Spec.appliesLoose_calling (g := g) X.here hdg hn hkY hinitY
      (X.room_calling (g := g) (R' := (headSpec ws rm).room) hsize hmY hcY hframes (by rw [hlY]; have := hlocals; rw [← hroom] at this; omega) (by rw [hroom, hrc]; exact hc) (by rw [hroom, hrs]; exact hs)) (atoms_intro fun w hw => hws w hw _ _ X.warmed)
  obtain ⟨mid, hmid⟩ := X.here.above
  have hfr : (U.setTop g).frames = (.java g :: mid) ++ below := by rw [State.frames_setTop' g X.here.top, hmid]; rfl
  obtain ⟨o, s₂, hsteps, -, hend, hq⟩ := Steps.callFree hM p X.admits X.cas X.clock (acts := []) hfr happ (hblind a U g mk hp) trivial
  rw [State.frames_setTop' g X.here.top] at hend
  obtain ⟨g₀, hg0⟩ := Option.isSome_iff_exists.mp X.here.top
  obtain ⟨r, hr⟩ := State.topJava?_eq_some.mp hg0
  -- the state that comes back, seen as the caller's with another heap and tables
  have key : ∀ {L : List Loc} {k n : Nat}, (U.calling g mk a).WarmedH s₂.vm → (U.calling g mk a).sameButNew ({ s₂ with vm := (U.calling g mk a).vm } : State) L k n →
      s₂ = ({ (U.calling g mk a).setFrames s₂.frames with heap := s₂.heap, slotsUsed := s₂.slotsUsed } : State).setVm s₂.vm ∧ U.sameButNew ({ U with heap := s₂.heap, slotsUsed := s₂.slotsUsed } : State) L k n ∧
      Stand p l e R s g.method args below meth c (({ U with heap := s₂.heap, slotsUsed := s₂.slotsUsed } : State).setVm s₂.vm) (locs ++ L) (cells + k) (slots + n) := by
    intro L k n hW2 hsm
    obtain ⟨e2, q2, q3, q4, q5, q6⟩ := hsm
    have e3 : s₂ = ({ s₂ with vm := (U.calling g mk a).vm } : State).setVm s₂.vm := rfl
    rw [e2] at e3
    have hsame : U.sameButNew ({ U with heap := s₂.heap, slotsUsed := s₂.slotsUsed } : State) L k n := by
      refine ⟨?_, q2, q3, q4, q5, q6⟩
      obtain ⟨t, ht, -⟩ := State.frames_cons hr
      show ({ U with heap := s₂.heap, slotsUsed := s₂.slotsUsed } : State) = { U.setFrames U.frames with heap := s₂.heap, slotsUsed := s₂.slotsUsed }
      rw [State.setFrames_self ht]
    have hW' : U.WarmedH s₂.vm := hW2
    exact ⟨e3, hsame, X.admits, X.cas, X.clock, X.frames, X.room, X.hears, X.method, X.code, (X.here.setHeapUsed s₂.heap s₂.slotsUsed).setVm hW'.alike, X.tail, State.WarmedH.trans X.warmed hW', X.limits, X.bytes, X.same.trans (hsame.setVm s.vm)⟩
  have hr' : (({ U with heap := s₂.heap, slotsUsed := s₂.slotsUsed } : State).setVm s₂.vm).frames = .java g₀ :: r := hr
  rcases (hq : zx_Q Qc Xc free a (U.calling g mk a) o s₂) with ⟨hqc, L, hfe, hL⟩ | ⟨q, E, ce, rfl, hx, hce, hcv, hcl, hW2, hsm⟩
  · obtain ⟨⟨v, rfl⟩, hW2, hsm⟩ := id hfe
    obtain ⟨e3, -, X'⟩ := key hW2 hsm
    obtain ⟨c₂, i₂, len₂, hc₂, hd₂, hf₂⟩ := hend
    have hW' : U.WarmedH s₂.vm := hW2
    have hcc : c₂ = c := by
      have h1 : s₂.code? g.method = U.code? g.method := by rw [State.code?_eq, State.code?_eq, hW'.alike.method?]
      exact Option.some.inj (hc₂.symm.trans (h1.trans X.here.code))
    subst hcc
    have hlen : len₂ = len := by rw [hdg] at hd₂; cases hd₂; rfl
    subst hlen
    refine Or.inl ⟨v, s₂, _, L, X', hL, rfl, rfl, hqc, ?_⟩
    have hs₂ : s₂ = (({ U with heap := s₂.heap, slotsUsed := s₂.slotsUsed } : State).setVm s₂.vm).setTop { g with pc := g.pc + len₂, stack := v.toList ++ g.stack } := by
      refine e3.trans ?_
      rw [hf₂, State.calling_eq X.here.top, State.setFrames_setFrames, State.setTop_of_frames _ hr', hr]
      rfl
    rw [← hs₂]
    exact hsteps
  · obtain ⟨e3, hsame, X'⟩ := key hW2 hsm
    have hf₂ : s₂.frames = .throwing q :: .java g :: U.frames.tail := hend
    have hs₂ : s₂ = ((({ U with heap := s₂.heap, slotsUsed := s₂.slotsUsed } : State).setVm s₂.vm).setTop g).pushFrame (.throwing q) := by
      refine e3.trans ?_
      rw [hf₂, State.calling_eq X.here.top, State.setFrames_setFrames, State.pushFrame, State.frames_setTop _ hr', State.setTop_of_frames _ hr', State.setFrames_setFrames, hr]
      rfl
    refine Or.inr ⟨q, E, ce, (({ U with heap := s₂.heap, slotsUsed := s₂.slotsUsed } : State).setVm s₂.vm), hx, by rw [List.append_nil] at X'; exact X', hce, hcv, hcl, hsame, ?_⟩
    rw [← hs₂]
    exact hsteps
end ZXB
section ZXR
variable {p : Program} {l : Launch} {e : Env} {R : Room} {s : State} {m : MethodId} {args : Array Value} {below : List Frame} {meth : Method} {c : Code} {H : Heap} {locs : List Loc} {cells slots : Nat} {Q : State → Prop}
/-- the frame g, with q thrown over it -/
def zx_W (p : Program) (l : Launch) (e : Env) (R : Room) (s : State) (m : MethodId) (args : Array Value) (below : List Frame) (meth : Method) (c : Code) (H : Heap) (locs : List Loc) (cells slots : Nat) (Q : State → Prop) (g : JFrame) (q : Addr) : Prop :=
  ∀ T : State, T.heap = H → Stand p l e R s m args below meth c T locs cells slots → ∃ t, Steps p.tables e below ((T.setTop g).pushFrame (.throwing q)) t ∧ Q t
/-- what a call of a method that may refuse comes to -/
def zx_Run (p : Program) (l : Launch) (e : Env) (R : Room) (s : State) (m : MethodId) (args : Array Value) (below : List Frame) (meth : Method) (c : Code) (H : Heap) (locs : List Loc) (cells slots : Nat) (g : JFrame) (rest : List Value) (Qa : State → Outcome → State → Prop) (Xc : String → Prop) (free : Addr → Prop) : Prop :=
  ∀ T : State, T.heap = H → Stand p l e R s m args below meth c T locs cells slots →
    (∃ (v : Option Value) (st₀ t T' : State) (L : List Loc), st₀.heap = H ∧ Stand p l e R s m args below meth c T' (locs ++ L) cells slots ∧ (∀ q ∈ L, free q.base) ∧ T'.heap = t.heap ∧ T'.vm = t.vm ∧ Qa st₀ (.returned v) t ∧
      ∀ tg, Steps p.tables e below (T'.setTop { g with pc := g.pc + 3, stack := v.toList ++ rest }) tg → Steps p.tables e below (T.setTop g) tg) ∨
    (∃ (q : Addr) (E : String) (ce : Cell) (T' : State), Xc E ∧ Stand p l e R s m args below meth c T' locs (cells + 1) (slots + 6) ∧ T'.heap[q]? = some ce ∧ ce.vm = .none ∧ s.vm.findClass E = some ce.cls ∧ H.size ≤ T'.heap.size ∧ (∀ z : Nat, z < H.size → T'.heap[z]? = H[z]?) ∧
      Steps p.tables e below (T.setTop g) ((T'.setTop { g with stack := rest }).pushFrame (.throwing q)))
/-- nothing old has changed where nothing was written -/
theorem zx_kept {U T : State} {k n : Nat} (h : U.sameButNew ({ T with vm := U.vm } : State) [] k n) : U.heap.size ≤ T.heap.size ∧ ∀ q : Nat, q < U.heap.size → T.heap[q]? = U.heap[q]? := by
  obtain ⟨-, h2, -, -, -, h6⟩ := h
  refine ⟨h2, fun q hq => ?_⟩
  obtain ⟨c9, e1, e2, e3, e4⟩ := h6 q _ (Array.getElem?_eq_getElem hq)
  have hs : c9.slots = (U.heap[q]).slots := Array.ext_getElem? fun i => e4 i (fun hm => nomatch hm)
  have h9 : c9 = U.heap[q] := by
    rw [hs] at e2
    exact e2
  rw [Array.getElem?_eq_getElem hq, ← h9]
  exact e1
theorem zx_cls {T : State} {vm₁ : Vm} {E : String} {k : ClassId} (hW : s.WarmedH vm₁) (h : (T.setVm vm₁).vm.findClass E = some k) : s.vm.findClass E = some k := by
  rw [← hW.alike.findClass]
  exact h
variable {y : MethodName} {bytes cc : ByteArray} {maxL nL n index : Nat} {ret : Option FieldType} {ws : List Cond} {rm : Room} {Pc : Array Value → State → Prop} {Qc : Array Value → State → Outcome → State → Prop} {Xc : String → Prop} {free : Addr → Prop} {Ts : List Cond} {own C : String} {b : Addr} {As rest : List Value} {g : JFrame}
theorem zx_runS (S : CallFix p m c cc nL s args Ts own) (hM : zx_Met l y ws rm Pc Qc Xc free) (cw : CallB R s args own index y bytes maxL ret ws rm 1 6 n ∧ (Cond.static y).before args s = true) (hp : PreS s H Pc As)
    (hg : g.method = m) (hn : As.length = n) (hsize : g.locals.size = nL) (hstack : g.stack = As.reverse ++ rest) (hW : 2 * g.monitorRoom + (rest.map fun v => v.category).sum ≤ 8) (hdg : decode cc g.pc = .ok (.invokestatic index, 3)) (hf : cells + 1 ≤ R.cells ∧ slots + 6 ≤ R.slots) :
    zx_Run p l e R s m args below meth c H locs cells slots g rest (Qc As.toArray) Xc free := by
  intro T hT X
  obtain ⟨hexec, hb, hml, hown, hts⟩ := S
  obtain ⟨⟨hrc, hrs, hfr, hlo, hws, hcin, hcode, hini, hy, hlen, hlink⟩, hstat⟩ := cw
  obtain ⟨hbl, hpre⟩ := hp
  subst hb
  obtain ⟨mk, hnamed⟩ := Cond.code_named hcode
  obtain ⟨methM, cM, hmethM, -, -, -, -, -, -, hsigM⟩ := Cond.code_spec hnamed hcode
  obtain ⟨kP, hkP, -⟩ := className_of_methodNamed hnamed
  obtain ⟨vm₁, X₁, hstep₁⟩ := X.invokestatic hexec hown hlink hnamed hmethM (Cond.static_spec hnamed hmethM hstat) hkP (Cond.initialized_spec (findClass_of_methodNamed hnamed) hkP hini) hy (g := g) hg (argsL := As) (rest := rest) (by rw [hn]; exact hlen _ hsigM) hstack hdg
  rcases zx_back hM hbl hrc hrs hfr hlo hws hcin (fun a' U hU => word_at hU (Or.inl (by first | rfl | simp [Cond.onTables, Cond.keeps, Cond.steady])) hini) X₁ (g := { g with stack := rest }) (ig := .invokestatic index) (len := 3) (mk := mk) (a := As.toArray) hg (by rw [hsize, hml]) hdg hW (X₁.named hnamed) hf.1 hf.2 (hpre _ hT X₁.warmed) with
    ⟨v, t, T', L, X', hL, e1, e2, hq, hst⟩ | ⟨q, E, ce, T', hx, X', hce, hcv, hcl, hsm, hst⟩
  · exact Or.inl ⟨v, (T.setVm vm₁).calling { g with stack := rest } mk As.toArray, t, T', L, hT, X', hL, e1, e2, hq, fun tg h => hstep₁ _ fun acts => by rw [doInvoke_state]; exact hst.trans h⟩
  · obtain ⟨k1, k2⟩ := zx_kept hsm
    refine Or.inr ⟨q, E, ce, T', hx, X', hce, hcv, zx_cls X₁.warmed hcl, ?_, ?_, hstep₁ _ fun acts => by rw [doInvoke_state]; exact hst⟩
    · rw [← hT]; exact k1
    · intro z hz; rw [← hT] at hz ⊢; exact k2 z hz
theorem zx_runV (S : CallFix p m c cc nL s args Ts own) (hM : zx_Met l y ws rm Pc Qc Xc free) (cw : CallW R s args own C index y bytes maxL ret ws rm 1 6 n) (hp : PreV s H C b Pc As)
    (hg : g.method = m) (hn : As.length = n) (hsize : g.locals.size = nL) (hstack : g.stack = As.reverse ++ .ref b :: rest) (hW : 2 * g.monitorRoom + (rest.map fun v => v.category).sum ≤ 8) (hdg : decode cc g.pc = .ok (.invokevirtual index, 3)) (hf : cells + 1 ≤ R.cells ∧ slots + 6 ≤ R.slots) :
    zx_Run p l e R s m args below meth c H locs cells slots g rest (Qc (Value.ref b :: As).toArray) Xc free := by
  intro T hT X
  obtain ⟨hexec, hb, hml, hown, hts⟩ := S
  obtain ⟨⟨hrc, hrs, hfr, hlo, hws, hcin, hcode, hini, hy, hlen, hlink⟩, hinst, hsel⟩ := cw
  obtain ⟨hbl, ⟨cellB, hcell, hobj, hcls⟩, hpre⟩ := hp
  subst hb
  obtain ⟨mk, methM, hnamed, hmethM, hstM, habM⟩ := Cond.instanceMethod_spec hinst
  obtain ⟨methM', cM, hmethM', -, -, -, -, -, -, hsigM⟩ := Cond.code_spec hnamed hcode
  cases hmethM.symm.trans hmethM'
  obtain ⟨c2, r2, m2, q1, q2, q3, q4, kP, hkP, hkPi⟩ := Cond.selects_spec hsel
  cases hcls.symm.trans q1
  cases (State.methodFound?_of_named hnamed hy).symm.trans q2
  cases hnamed.symm.trans q3
  have hselP : selectMethod e.platform s.vm cellB.cls mk = .method mk := by rw [Launch.admits_selectMethod X.admits]; exact q4
  obtain ⟨vm₁, X₁, hstep₁⟩ := X.invokevirtual hexec hown hlink hnamed hmethM hstM hkP hkPi hy (a := b) (cell := cellB) (by rw [hT]; exact hcell)
    (fun z h => by rw [h] at hobj; cases hobj) hselP hmethM habM hkP hkPi (g := g) hg (argsL := As) (rest := rest) (by rw [hn]; exact hlen _ hsigM) hstack hdg
  rcases zx_back hM hbl hrc hrs hfr hlo hws hcin (fun a' U hU => word_at hU (Or.inl (by first | rfl | simp [Cond.onTables, Cond.keeps, Cond.steady])) hini) X₁ (g := { g with stack := rest }) (ig := .invokevirtual index) (len := 3) (mk := mk) (a := (Value.ref b :: As).toArray) hg (by rw [hsize, hml]) hdg hW (X₁.named hnamed) hf.1 hf.2 (hpre _ hT X₁.warmed) with
    ⟨v, t, T', L, X', hL, e1, e2, hq, hst⟩ | ⟨q, E, ce, T', hx, X', hce, hcv, hcl, hsm, hst⟩
  · exact Or.inl ⟨v, (T.setVm vm₁).calling { g with stack := rest } mk (Value.ref b :: As).toArray, t, T', L, hT, X', hL, e1, e2, hq, fun tg h => hstep₁ _ fun acts => by rw [doInvoke_state]; exact hst.trans h⟩
  · obtain ⟨k1, k2⟩ := zx_kept hsm
    refine Or.inr ⟨q, E, ce, T', hx, X', hce, hcv, zx_cls X₁.warmed hcl, ?_, ?_, hstep₁ _ fun acts => by rw [doInvoke_state]; exact hst⟩
    · rw [← hT]; exact k1
    · intro z hz; rw [← hT] at hz ⊢; exact k2 z hz
/-- a refusal in a method that has written nothing yet and catches nothing: it goes on to the caller -/
theorem zx_pass {Qc' : Array Value → State → Outcome → State → Prop} {Xc' : String → Prop} {free' : Addr → Prop} {pc : Nat} {ls : Array Slot} {st0 : List Value} {Qa : State → Outcome → State → Prop} (hr : zx_Run p l e R s m args below meth c s.heap [] 0 0 (F0 m pc ls st0) rest Qa Xc free) (hno : ∀ st v t, ¬ Qa st (.returned v) t)
    (hex : c.exceptionTable.isEmpty = true) (hlocks : meth.locks = false) (hx : ∀ E, Xc E → Xc' E) : W p l e R s m args below meth c s.heap [] 0 0 (zx_M below Qc' Xc' args s free') (F0 m pc ls st0) := by
  intro T hT X
  rcases hr T hT X with ⟨v, st₀, t, T', L, h0, X', hL, e1, e2, hq, st⟩ | ⟨q, E, ce, T', hxe, X', hce, hcv, hcl, hz, hk, st⟩
  · exact absurd hq (hno _ _ _)
  · obtain ⟨st1, hrun, hend, hW, hsm⟩ := X'.leaveThrown q (g := F0 m pc ls rest) rfl rfl rfl (covers_of_empty hex _) hlocks
    exact ⟨_, st.trans st1, .threw q, hrun, hend, Or.inr ⟨q, E, ce, rfl, hx E hxe, hce, hcv, hcl, hW, hsm⟩⟩
end ZXR
/-! What a thrown exception needs of the start: two statics of Throwable, the texts. -/
def zt_h1 : Cond := .isRef (.static Bundle.tN "UNASSIGNED_STACK" Bundle.steD)
def zt_h2 : Cond := .isRef (.static Bundle.tN "SUPPRESSED_SENTINEL" Bundle.listD)
def zt_h3 : Cond := .laysStatic Bundle.tN "UNASSIGNED_STACK" Bundle.steD
def zt_h4 : Cond := .laysStatic Bundle.tN "SUPPRESSED_SENTINEL" Bundle.listD
theorem zt_lays {O f d : String} {A A' : Array Value} {s U : State} (hh : U.heap = s.heap) (hv : U.vm = s.vm) (h : (Cond.laysStatic O f d).before A s = true) : (Cond.laysStatic O f d).before A' U = true := by
  obtain ⟨c, k, i, fd, a, cell, hc, hf, hst, hsta, hcell, hiss, hcls, hlt, hty⟩ := Cond.laysStatic_spec h
  have hf' : U.fieldFound? O f d = some (c, k, i, fd) := by rw [← hf]; simp only [State.fieldFound?, hv]
  rw [← hv] at hc
  rw [← hh] at hcell
  simp [Cond.before, Cond.holds, Cond.value, hc, hf', hst, hsta, hcell, hiss, hcls, hlt, hty]
theorem zt_isRef {O f d : String} {A A' : Array Value} {s U : State} (hh : U.heap = s.heap) (hv : U.vm = s.vm) (h : (Cond.isRef (.static O f d)).before A s = true) : (Cond.isRef (.static O f d)).before A' U = true := by
  have he : (Term.static O f d).eval A' U none [] U = (Term.static O f d).eval A s none [] s := by
    simp only [Term.eval, State.fieldNamed?, State.fieldFound?, hv, hh]
  simp only [Cond.before, Cond.holds, Cond.value, he] at h ⊢
  exact h
def zt_cs : List Cond := [.castable "java/lang/IndexOutOfBoundsException" "java/lang/IndexOutOfBoundsException", .castable "java/lang/IllegalStateException" "java/lang/IllegalStateException", .castable "java/lang/IllegalArgumentException" "java/lang/IllegalArgumentException", .castable "java/lang/UnsupportedOperationException" "java/lang/UnsupportedOperationException", .declares (Bundle.initS "java/lang/RuntimeException"), .declares (Bundle.initS "java/lang/Exception"), .declares (Bundle.initS "java/lang/Throwable")]
def zt_w (U : State) : Prop := zt_h1.before #[] U = true ∧ zt_h2.before #[] U = true ∧ zt_h3.before #[] U = true ∧ zt_h4.before #[] U = true ∧ va_Nw (.castable "java/lang/IndexOutOfBoundsException" "java/lang/IndexOutOfBoundsException") U ∧ va_Nw (.castable "java/lang/IllegalStateException" "java/lang/IllegalStateException") U ∧ va_Nw (.castable "java/lang/IllegalArgumentException" "java/lang/IllegalArgumentException") U ∧ va_Nw (.castable "java/lang/UnsupportedOperationException" "java/lang/UnsupportedOperationException") U ∧ va_Nw (.declares (Bundle.initS "java/lang/RuntimeException")) U ∧ va_Nw (.declares (Bundle.initS "java/lang/Exception")) U ∧ va_Nw (.declares (Bundle.initS "java/lang/Throwable")) U
theorem zt_w_move {s U : State} (hh : U.heap = s.heap) (hW : s.WarmedH U.vm) (h : zt_w s) : zt_w U := by
  have hS := State.Shifted.of_warmed hW
  obtain ⟨h1, h2, h3, h4, h5, h6, h7, h8, h9, h10, h11⟩ := h
  exact ⟨zt_isRef (s := s.setVm U.vm) hh rfl (Cond.before_shiftedFace hS _ rfl h1), zt_isRef (s := s.setVm U.vm) hh rfl (Cond.before_shiftedFace hS _ rfl h2), zt_lays (s := s.setVm U.vm) hh rfl (Cond.before_shiftedFace hS _ rfl h3), zt_lays (s := s.setVm U.vm) hh rfl (Cond.before_shiftedFace hS _ rfl h4), va_Nw.warmC hW h5, va_Nw.warmC hW h6, va_Nw.warmC hW h7, va_Nw.warmC hW h8, va_Nw.warmD hW h9, va_Nw.warmD hW h10, va_Nw.warmD hW h11⟩
theorem zt_w_same {s U : State} (hh : U.heap = s.heap) (hv : U.vm = s.vm) (h : zt_w s) : zt_w U := by
  obtain ⟨h1, h2, h3, h4, h5, h6, h7, h8, h9, h10, h11⟩ := h
  exact ⟨zt_isRef hh hv h1, zt_isRef hh hv h2, zt_lays hh hv h3, zt_lays hh hv h4, va_Nw.same rfl hv.symm h5, va_Nw.same rfl hv.symm h6, va_Nw.same rfl hv.symm h7, va_Nw.same rfl hv.symm h8, va_Nw.same rfl hv.symm h9, va_Nw.same rfl hv.symm h10, va_Nw.same rfl hv.symm h11⟩
/-- the words of a throw, at any arguments -/
theorem zt_all {A : Array Value} {s : State} {L : List Cond} (hts : ∀ w ∈ zw_T, w.before A s = true) (hL : ∀ w ∈ L, w ∈ zw_T ∨ w ∈ [zt_h1, zt_h2, zt_h3, zt_h4] ∨ w ∈ zt_cs) (h : zt_w s) : ∀ w ∈ L, w.before A s = true := by
  intro w hw
  obtain ⟨a1, a2, a3, a4, a5, a6, a7, a8, a9, a10, a11⟩ := h
  rcases hL w hw with h1 | h1 | h1
  · exact hts w h1
  · simp only [List.mem_cons, List.not_mem_nil, or_false] at h1
    rcases h1 with rfl | rfl | rfl | rfl
    · exact zt_isRef rfl rfl a1
    · exact zt_isRef rfl rfl a2
    · exact zt_lays rfl rfl a3
    · exact zt_lays rfl rfl a4
  · simp only [zt_cs, List.mem_cons, List.not_mem_nil, or_false] at h1
    rcases h1 with rfl | rfl | rfl | rfl | rfl | rfl | rfl
    · exact va_Nw.use rfl a5
    · exact va_Nw.use rfl a6
    · exact va_Nw.use rfl a7
    · exact va_Nw.use rfl a8
    · exact va_Nw.use rfl a9
    · exact va_Nw.use rfl a10
    · exact va_Nw.use rfl a11
section ZT
variable {p : Program} {l : Launch} {e : Env} {R : Room} {s : State} {m : MethodId} {args : Array Value} {below : List Frame} {meth : Method} {c : Code}
/-- 'throw new E("text")', in a method that has written nothing and catches nothing -/
theorem zx_throw {cc : ByteArray} {pc : Nat} (hexec : p.tables.exec = Jvm.exec) (hb : c.code = cc) (hl : l.stackTraces = false) {own cls text : String} {names : List String} {ik is ic sa : Nat} {Qc : Array Value → State → Outcome → State → Prop} {Xc : String → Prop} {free : Addr → Prop} {ls : Array Slot}
    (hown : s.vm.findClass own = some m.cls) (hcls : Bundle.fit cls = true) (hnames : ∀ n ∈ names, Bundle.fit n = true)
    (hk : (Cond.classLink own ik cls).before args s = true) (hini : (Cond.initialized cls).before args s = true) (hstr : vk_R own is text sa s) (hat : ∀ w ∈ Bundle.ownAtoms own ic cls names, w.before args s = true) (hsize : ls.size = c.maxLocals)
    (d0 : decode cc pc = .ok (.new ik, 3)) (d3 : decode cc (pc + 3) = .ok (.dup, 1)) (d4 : decode cc (pc + 4) = .ok (.ldc is, 2)) (d6 : decode cc (pc + 6) = .ok (.invokespecial ic, 3)) (d9 : decode cc (pc + 9) = .ok (.athrow, 1))
    (hex : c.exceptionTable.isEmpty = true) (hRf : names.length + 3 < R.frames) (hRl : 13 * (names.length + 1) + 43 ≤ R.locals) (hRc : 1 ≤ R.cells) (hRs : 6 ≤ R.slots) (hlocks : meth.locks = false) (hx : Xc cls) :
    W p l e R s m args below meth c s.heap [] 0 0 (zx_M below Qc Xc args s free) (F0 m pc ls []) := by
  refine W.newc (n := 6) hexec hb hown hk (hat (.instantiable cls 6) (by simp [Bundle.ownAtoms])) hini rfl d0 (by omega) (by omega) (fun cX kX hfX hkX _ _ => ?_)
  refine W.eq (g2 := F0 m (pc + 3) ls [.ref s.heap.size]) rfl ?_
  refine lv_dup hexec hb d3 rfl ?_
  refine va_ldcS hexec hb hown hstr d4 ?_
  intro T hT X
  have htr : e.platform.stackTraces = false := by rw [X.admits.platform]; exact hl
  have hcell : T.heap[s.heap.size]? = some (freshCell cX kX) := by rw [hT]; simp [freshCell]
  subst hb
  obtain ⟨U, hsteps, hrun, hend, hW, hsame, ce, hce, hO⟩ := X.ctorThrowS hexec htr (own := own) (cls := cls) (names := names) (ic := ic) hown hcls hnames hat (fun x hx => nomatch hx) hfX hkX hcell (Nat.le_refl _) (msg := .ref sa) rfl
    (g := F0 m (pc + 3 + 1 + 2) ls [.ref sa, .ref s.heap.size, .ref s.heap.size]) rfl hsize rfl rfl (rest := []) rfl d6 d9 (covers_of_empty hex _) hRf (by simp [F0, Value.category]; omega) hlocks
  exact ⟨U, hsteps, .threw s.heap.size, hrun, hend, Or.inr ⟨s.heap.size, cls, ce, rfl, hx, hce, hO.vm, hO.cls, hW, hsame⟩⟩
theorem zx_ldcw {cc : ByteArray} {pc : Nat} {H : Heap} {locs : List Loc} {cells slots : Nat} {Q : State → Prop} {ls : Array Slot} {rest : List Value} (hexec : p.tables.exec = Jvm.exec) (hb : c.code = cc) {own tx : String} {index q : Nat} (hown : s.vm.findClass own = some m.cls) (hZ : vk_R own index tx q s) (hdg : decode cc pc = .ok (.ldc_w index, 3))
    (k : W p l e R s m args below meth c H locs cells slots Q (F0 m (pc + 3) ls (.ref q :: rest))) : W p l e R s m args below meth c H locs cells slots Q (F0 m pc ls rest) := by
  intro T hT X
  obtain ⟨t, a1, b1⟩ := k T hT X
  exact ⟨t, X.ldcStringW hexec hown (text := tx) (a := q) hZ.1 hZ.2 (g := F0 m pc ls rest) rfl (by rw [hb]; exact hdg) t a1, b1⟩
/-- 'throw new E("text")', the text by a wide index -/
theorem zx_throwW {cc : ByteArray} {pc : Nat} (hexec : p.tables.exec = Jvm.exec) (hb : c.code = cc) (hl : l.stackTraces = false) {own cls text : String} {names : List String} {ik is ic sa : Nat} {Qc : Array Value → State → Outcome → State → Prop} {Xc : String → Prop} {free : Addr → Prop} {ls : Array Slot}
    (hown : s.vm.findClass own = some m.cls) (hcls : Bundle.fit cls = true) (hnames : ∀ n ∈ names, Bundle.fit n = true)
    (hk : (Cond.classLink own ik cls).before args s = true) (hini : (Cond.initialized cls).before args s = true) (hstr : vk_R own is text sa s) (hat : ∀ w ∈ Bundle.ownAtoms own ic cls names, w.before args s = true) (hsize : ls.size = c.maxLocals)
    (d0 : decode cc pc = .ok (.new ik, 3)) (d3 : decode cc (pc + 3) = .ok (.dup, 1)) (d4 : decode cc (pc + 4) = .ok (.ldc_w is, 3)) (d6 : decode cc (pc + 7) = .ok (.invokespecial ic, 3)) (d9 : decode cc (pc + 10) = .ok (.athrow, 1))
    (hex : c.exceptionTable.isEmpty = true) (hRf : names.length + 3 < R.frames) (hRl : 13 * (names.length + 1) + 43 ≤ R.locals) (hRc : 1 ≤ R.cells) (hRs : 6 ≤ R.slots) (hlocks : meth.locks = false) (hx : Xc cls) :
    W p l e R s m args below meth c s.heap [] 0 0 (zx_M below Qc Xc args s free) (F0 m pc ls []) := by
  refine W.newc (n := 6) hexec hb hown hk (hat (.instantiable cls 6) (by simp [Bundle.ownAtoms])) hini rfl d0 (by omega) (by omega) (fun cX kX hfX hkX _ _ => ?_)
  refine W.eq (g2 := F0 m (pc + 3) ls [.ref s.heap.size]) rfl ?_
  refine lv_dup hexec hb d3 rfl ?_
  refine zx_ldcw hexec hb hown hstr d4 ?_
  intro T hT X
  have htr : e.platform.stackTraces = false := by rw [X.admits.platform]; exact hl
  have hcell : T.heap[s.heap.size]? = some (freshCell cX kX) := by rw [hT]; simp [freshCell]
  subst hb
  obtain ⟨U, hsteps, hrun, hend, hW, hsame, ce, hce, hO⟩ := X.ctorThrowS hexec htr (own := own) (cls := cls) (names := names) (ic := ic) hown hcls hnames hat (fun x hx => nomatch hx) hfX hkX hcell (Nat.le_refl _) (msg := .ref sa) rfl
    (g := F0 m (pc + 3 + 1 + 3) ls [.ref sa, .ref s.heap.size, .ref s.heap.size]) rfl hsize rfl rfl (rest := []) rfl d6 d9 (covers_of_empty hex _) hRf (by simp [F0, Value.category]; omega) hlocks
  exact ⟨U, hsteps, .threw s.heap.size, hrun, hend, Or.inr ⟨s.heap.size, cls, ce, rfl, hx, hce, hO.vm, hO.cls, hW, hsame⟩⟩
end ZT
def zt_ok (U : State) : Prop := zt_w U ∧ (∃ sa, vk_R R_Or 248 "no such number" sa U) ∧ (∃ sa, vk_R R_Or 260 "out of range" sa U) ∧ (∃ sa, vk_R R_Or 265 "can not be, or no room" sa U) ∧ (∃ sa, vk_R R_Or 255 "not now" sa U)
theorem zt_move {s U : State} (hh : U.heap = s.heap) (hW : s.WarmedH U.vm) (h : zt_ok s) : zt_ok U := ⟨zt_w_move hh hW h.1, ⟨h.2.1.choose, vk_R.warm hW h.2.1.choose_spec⟩, ⟨h.2.2.1.choose, vk_R.warm hW h.2.2.1.choose_spec⟩, ⟨h.2.2.2.1.choose, vk_R.warm hW h.2.2.2.1.choose_spec⟩, ⟨h.2.2.2.2.choose, vk_R.warm hW h.2.2.2.2.choose_spec⟩⟩
theorem zt_same {s U : State} (hh : U.heap = s.heap) (hv : U.vm = s.vm) (h : zt_ok s) : zt_ok U := ⟨zt_w_same hh hv h.1, ⟨h.2.1.choose, vk_R.same hv h.2.1.choose_spec⟩, ⟨h.2.2.1.choose, vk_R.same hv h.2.2.1.choose_spec⟩, ⟨h.2.2.2.1.choose, vk_R.same hv h.2.2.2.1.choose_spec⟩, ⟨h.2.2.2.2.choose, vk_R.same hv h.2.2.2.2.choose_spec⟩⟩
section ZBX
variable {av : List Value} {D : va_G} {cl : List vw_C} {ws : va_W} {tys : List (ClassId × FieldType)} {s : State} {sz : Nat}
theorem zb_px : FrameBlind (va_Pc av (fun U => va_P D cl ws U.heap ∧ va_K D cl tys U ∧ zn_ok U ∧ zt_ok U)) :=
  fun a U g mk q => ⟨q.1, q.2.1, va_K.moved (u := U) (U := U.calling g mk a) (Vm.Alike.refl U.vm) q.2.2.1, zn_same (s := U) (U := U.calling g mk a) rfl q.2.2.2.1, zt_same (s := U) (U := U.calling g mk a) rfl rfl q.2.2.2.2⟩
theorem zb_prePX (hP : va_P D cl ws s.heap) (hK : va_K D cl tys s) (hN : zn_ok s) (hZ : zt_ok s) : ∀ U : State, U.heap = s.heap → s.WarmedH U.vm → va_Pc av (fun U => va_P D cl ws U.heap ∧ va_K D cl tys U ∧ zn_ok U ∧ zt_ok U) av.toArray U :=
  fun U hU hW => ⟨rfl, by rw [hU]; exact hP, va_K.moved hW.alike hK, zn_warm hW hN, zt_move hU hW hZ⟩
end ZBX
