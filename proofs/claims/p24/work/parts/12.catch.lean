def zl_ok (U : State) : Prop := va_Nc "java/lang/IllegalArgumentException" "java/lang/IndexOutOfBoundsException" U ∧ va_Nc "java/lang/UnsupportedOperationException" "java/lang/IndexOutOfBoundsException" U ∧ va_Nc "java/lang/UnsupportedOperationException" "java/lang/IllegalArgumentException" U ∧ va_Nc "java/lang/IllegalStateException" "java/lang/IndexOutOfBoundsException" U ∧ va_Nc "java/lang/IllegalArgumentException" "java/lang/IllegalStateException" U ∧ va_Nc "java/lang/UnsupportedOperationException" "java/lang/IllegalStateException" U
theorem zl_moved {s U : State} (hv : s.vm.Alike U.vm) (h : zl_ok s) : zl_ok U := ⟨va_Nc.moved hv h.1, va_Nc.moved hv h.2.1, va_Nc.moved hv h.2.2.1, va_Nc.moved hv h.2.2.2.1, va_Nc.moved hv h.2.2.2.2.1, va_Nc.moved hv h.2.2.2.2.2⟩
/-! Callers that catch: the law's own helpers. -/
section ZYN
variable {e : Env} {f : JFrame} {a : Addr} {S s : State}
/-- to look a row's type up first changes nothing in what its search gives -/
theorem zy_nt {Q : Handler → Pre} {E : CtlPost} {d : Bool} {acts : List Action} {x : ExceptionTableEntry} {t : List ExceptionTableEntry} {k : ClassId} (hx : covers x f.pc = true) (h0 : x.catchType ≠ 0) (hl : S.vm.ClassLinks e.platform f.method.cls x.catchType k) :
    wp (findHandler.go f a (x :: t)) Q E e d acts S ↔ wp (findHandler.go f a (x :: t)) Q E e d acts (S.setVm (S.vm.noted f.method.cls x.catchType (.cls k))) := by
  obtain ⟨g1, g2⟩ := (resolveClass_links e.toSetting hl).op (op := VmOp.resolveClass f.method.cls x.catchType) rfl
  obtain ⟨k1, g3, g4⟩ := hl.ready
  simp only [covers] at hx
  simp [findHandler.go, hx, h0, g1, g2, resolveClass_memo e g3 g4, VmOp.dirties, VmOp.acts]
  exact Iff.rfl
/-- the search through these rows ends at pc; V are the tables behind it -/
def zy_fd (e : Env) (f : JFrame) (a : Addr) (S : State) (L : List ExceptionTableEntry) (pc : Nat) (V : Vm) : Prop :=
  ∀ (Q : Handler → Pre) (E : CtlPost) (d : Bool) (acts : List Action), wp (findHandler.go f a L) Q E e d acts S ↔ Q (.found pc) d acts (S.setVm V)
/-- a type's link, seen from tables that are warmer -/
theorem zy_ln {V : Vm} {pl : Platform} {d j k : Nat} (hW : s.WarmedH V) (hl : s.vm.ClassLinks pl d j k) : s.WarmedH (V.noted d j (.cls k)) ∧ V.ClassLinks pl d j k ∧ ∃ y, (V.noted d j (.cls k)).classes[k]? = some y := by
  obtain ⟨dk, _, _, ck, hd, _, _, _, _, hck, _, ho⟩ := hl.here
  have h1 := hW.noted hd ho (State.rightAt_cls hl)
  obtain ⟨y, hy, -⟩ := h1.alike.2.2 _ _ hck
  exact ⟨h1, hW.classLinks hl, y, hy⟩
theorem zy_srch {cell : Cell} {k : ClassId} {x : ExceptionTableEntry} {suf : List ExceptionTableEntry} (hobj : ∀ k, cell.vm ≠ .statics k) (hk : ∃ k, s.vm.classes[cell.cls]? = some k) (hx : covers x f.pc = true) (h0 : x.catchType ≠ 0)
    (hl : s.vm.ClassLinks e.platform f.method.cls x.catchType k) (hfit : s.vm.assignable cell.cls k = true) :
    ∀ (pre : List ExceptionTableEntry) (S : State), s.WarmedH S.vm → S.heap[a]? = some cell → (∀ z ∈ pre, z.catchType ≠ 0 ∧ ∃ c, s.vm.ClassLinks e.platform f.method.cls z.catchType c ∧ s.vm.assignable cell.cls c = false) →
      ∃ V, s.WarmedH V ∧ zy_fd e f a S (pre ++ x :: suf) x.handlerPc V := by
  obtain ⟨k0, hk0⟩ := hk
  intro pre
  induction pre with
  | nil =>
    intro S hW hc _
    obtain ⟨w1, w2, w3⟩ := zy_ln hW hl
    obtain ⟨y, hy, -⟩ := w1.alike.2.2 _ _ hk0
    refine ⟨_, w1, fun Q E d acts => ?_⟩
    rw [List.nil_append, zy_nt hx h0 w2, W.findHandler_go_class (s := S.setVm (S.vm.noted f.method.cls x.catchType (.cls k))) hx h0 w2.ready hc hobj ⟨y, hy⟩ w3]
    exact iff_of_eq (if_pos (w1.alike.assignable _ _ ▸ hfit))
  | cons z pre ih =>
    intro S hW hc hp
    obtain ⟨z0, c, zl, zf⟩ := hp z (List.mem_cons_self ..)
    have hp' := fun y hy => hp y (List.mem_cons_of_mem _ hy)
    by_cases hz : covers z f.pc = true
    · obtain ⟨w1, w2, w3⟩ := zy_ln hW zl
      obtain ⟨y, hy, -⟩ := w1.alike.2.2 _ _ hk0
      obtain ⟨V, v1, v2⟩ := ih (S.setVm (S.vm.noted f.method.cls z.catchType (.cls c))) w1 hc hp'
      refine ⟨V, v1, fun Q E d acts => ?_⟩
      rw [List.cons_append, zy_nt hz z0 w2, W.findHandler_go_class (s := S.setVm (S.vm.noted f.method.cls z.catchType (.cls c))) hz z0 w2.ready hc hobj ⟨y, hy⟩ w3]
      have hn : ¬ (S.setVm (S.vm.noted f.method.cls z.catchType (.cls c))).vm.assignable cell.cls c = true := by
        show ¬ (S.vm.noted f.method.cls z.catchType (.cls c)).assignable cell.cls c = true
        rw [w1.alike.assignable, zf]
        exact Bool.false_ne_true
      rw [if_neg hn]
      exact v2 Q E d acts
    · obtain ⟨V, v1, v2⟩ := ih S hW hc hp'
      refine ⟨V, v1, fun Q E d acts => ?_⟩
      rw [List.cons_append, W.findHandler_go_skip (Bool.eq_false_iff.mpr hz)]
      exact v2 Q E d acts
/-- from the note to the handler, the tables warmer -/
theorem zy_hand {tb : Tables} {T target : State} {g : JFrame} {c : Code} {below : List Frame} {pc : Nat} {V : Vm} (h : At T g.method c below)
    (hf : ∀ (Q : Handler → Pre) (E : CtlPost) (d : Bool) (acts : List Action), wp (findHandler g a) Q E e d acts ((T.setTop g).pushFrame (.throwing a)) ↔ Q (.found pc) d acts (((T.setTop g).pushFrame (.throwing a)).setVm V))
    (k : Steps tb e below ((T.setVm V).setTop { g with pc := pc, stack := [.ref a] }) target) : Steps tb e below ((T.setTop g).pushFrame (.throwing a)) target := by
  obtain ⟨g0, hg0⟩ := Option.isSome_iff_exists.mp h.top
  obtain ⟨r, hr⟩ := State.topJava?_eq_some.mp hg0
  have hrV : (T.setVm V).frames = .java g0 :: r := hr
  have go : (stepThrowing e ((T.setTop g).pushFrame (.throwing a)) a (.java g :: r)).Is ((T.setVm V).setTop { g with pc := pc, stack := [.ref a] }) [] := by
    rw [State.setTop_of_frames _ hrV]
    simp only [stepThrowing, searchFrame, vmDo]
    generalize hq : Sem.go _ e false [] _ = res
    obtain ⟨as, rfl, ha⟩ := Sem.eq_ok_of hq (a := Handler.found pc) (s' := ((T.setTop g).pushFrame (.throwing a)).setVm V) (acts' := []) (by simp [hf _ _ _ _])
    refine ⟨?_, ha⟩
    have sw : ∀ (u : State) (F : List Frame), (u.setFrames F).setVm V = (u.setVm V).setFrames F := fun _ _ => rfl
    show (((T.setTop g).pushFrame (.throwing a)).setVm V).setFrames (.java { g with pc := pc, stack := [.ref a] } :: r) = _
    rw [State.pushFrame, State.setTop_of_frames _ hr, sw, sw, State.setFrames_setFrames, State.setFrames_setFrames]
  obtain ⟨h1, h2⟩ := h.throwing a
  refine Steps.head h1 h2 ?_
  rw [stepThread_throwing (below := .java g :: r) (by rw [frames_entered h.top, hr]; rfl), go.1]
  exact k
end ZYN
section ZYM
variable {p : Program} {l : Launch} {e : Env} {R : Room} {s : State} {m : MethodId} {args : Array Value} {below : List Frame} {meth : Method} {c : Code} {T : State} {locs : List Loc} {cells slots : Nat}
theorem zy_caught (X : Stand p l e R s m args below meth c T locs cells slots) (a : Addr) {g : JFrame} (hg : g.method = m) {cell : Cell} (hcell : T.heap[a]? = some cell) (hobj : cell.vm.isStatics = false) (hk : ∃ k, s.vm.classes[cell.cls]? = some k)
    (pre : List ExceptionTableEntry) (x : ExceptionTableEntry) (suf : List ExceptionTableEntry) (hs : c.exceptionTable.toList = pre ++ x :: suf)
    (hp : ∀ z ∈ pre, z.catchType ≠ 0 ∧ ∃ k, s.vm.ClassLinks e.platform m.cls z.catchType k ∧ s.vm.assignable cell.cls k = false) (hx : covers x g.pc = true) (h0 : x.catchType ≠ 0) {k : ClassId} (hl : s.vm.ClassLinks e.platform m.cls x.catchType k) (hfit : s.vm.assignable cell.cls k = true) :
    ∃ V, Stand p l e R s m args below meth c (T.setVm V) locs cells slots ∧ ∀ target, Steps p.tables e below ((T.setVm V).setTop { g with pc := x.handlerPc, stack := [.ref a] }) target → Steps p.tables e below ((T.setTop g).pushFrame (.throwing a)) target := by
  subst hg
  obtain ⟨V, v1, v2⟩ := zy_srch (f := g) (a := a) (suf := suf) (VmData.ne_statics_of hobj) hk hx h0 hl hfit pre ((T.setTop g).pushFrame (.throwing a)) (by rw [Stand.throwing_vm]; exact X.warmed) (by rw [Stand.throwing_heap]; exact hcell) hp
  refine ⟨V, X.noted v1, fun target h => zy_hand X.here (fun Q E d acts => ?_) h⟩
  rw [W.findHandler_eq (s := (T.setTop g).pushFrame (.throwing a)) (meth := meth) (code := c) X.method' X.code, hs]
  exact v2 Q E d acts
end ZYM
section ZY
variable {p : Program} {l : Launch} {e : Env} {R : Room} {s : State} {m : MethodId} {args : Array Value} {below : List Frame} {meth : Method} {c : Code} {H : Heap} {locs : List Loc} {cells slots : Nat} {Q : State → Prop}
variable {pc : Nat} {ls : Array Slot} {rest st0 : List Value} {a : Array Value} {A0 A1 : Nat → Prop} {H0 : Heap} {free : Addr → Prop} {Xc : String → Prop}
/-- what goes on where q was thrown over the caller's frame -/
def zy_K (p : Program) (l : Launch) (e : Env) (R : Room) (s : State) (m : MethodId) (args : Array Value) (below : List Frame) (meth : Method) (c : Code) (H : Heap) (locs : List Loc) (cells slots : Nat) (Q : State → Prop) (g : JFrame) (Xc : String → Prop) : Prop :=
  ∀ (E : String) (ce : Cell) (q : Addr) (H1 : Heap), Xc E → H1[q]? = some ce → ce.vm = .none → s.vm.findClass E = some ce.cls → H.size ≤ H1.size → (∀ z : Nat, z < H.size → H1[z]? = H[z]?) → zx_W p l e R s m args below meth c H1 locs (cells + 1) (slots + 6) Q g q
theorem zy_ri {post : Int32 → Prop} (hr : zx_Run p l e R s m args below meth c H locs cells slots (F0 m pc ls st0) rest (zq_Ri post a) Xc (fun _ => False)) (kx : zy_K p l e R s m args below meth c H locs cells slots Q (F0 m pc ls rest) Xc)
    (kk : ∀ r : Int32, post r → W p l e R s m args below meth c H locs cells slots Q (F0 m (pc + 3) ls (.int r :: rest))) : W p l e R s m args below meth c H locs cells slots Q (F0 m pc ls st0) := by
  intro T hT X
  rcases hr T hT X with ⟨v, st₀, t, T', L, h0, X', hL, e1, e2, ⟨r, hv, hp, hh⟩, st⟩ | ⟨q, E, ce, T', hxe, X', hce, hcv, hcl, hz, hk, st⟩
  · cases hv
    obtain rfl := zq_nil hL
    rw [List.append_nil] at X'
    obtain ⟨t2, a1, b1⟩ := kk r hp T' (by rw [e1, hh, h0]) X'
    exact ⟨t2, st t2 a1, b1⟩
  · obtain ⟨t2, a1, b1⟩ := kx E ce q T'.heap hxe hce hcv hcl hz hk T' rfl X'
    exact ⟨t2, st.trans a1, b1⟩
theorem zy_rl {post : Int64 → Prop} (hr : zx_Run p l e R s m args below meth c H locs cells slots (F0 m pc ls st0) rest (zq_Rl post a) Xc (fun _ => False)) (kx : zy_K p l e R s m args below meth c H locs cells slots Q (F0 m pc ls rest) Xc)
    (kk : ∀ r : Int64, post r → W p l e R s m args below meth c H locs cells slots Q (F0 m (pc + 3) ls (.long r :: rest))) : W p l e R s m args below meth c H locs cells slots Q (F0 m pc ls st0) := by
  intro T hT X
  rcases hr T hT X with ⟨v, st₀, t, T', L, h0, X', hL, e1, e2, ⟨r, hv, hp, hh⟩, st⟩ | ⟨q, E, ce, T', hxe, X', hce, hcv, hcl, hz, hk, st⟩
  · cases hv
    obtain rfl := zq_nil hL
    rw [List.append_nil] at X'
    obtain ⟨t2, a1, b1⟩ := kk r hp T' (by rw [e1, hh, h0]) X'
    exact ⟨t2, st t2 a1, b1⟩
  · obtain ⟨t2, a1, b1⟩ := kx E ce q T'.heap hxe hce hcv hcl hz hk T' rfl X'
    exact ⟨t2, st.trans a1, b1⟩
/-- the caller's world behind a callee that wrote -/
theorem zy_keep {st₀ t T' : State} {L : List Loc} (h0 : st₀.heap = H) (e1 : T'.heap = t.heap) (hS : va_S A0 H0 H locs) (hA : ∀ q, q < H.size → A1 q → A0 q) (hf : ∀ q, free q → A0 q) (hL : ∀ q ∈ L, free q.base) (hF : va_F A1 st₀ t) :
    H.size ≤ T'.heap.size ∧ (∀ q : Nat, q < H.size → ¬ A1 q → T'.heap[q]? = H[q]?) ∧ va_S A0 H0 T'.heap (locs ++ L) := by
  obtain ⟨hz, hk⟩ := hF
  rw [h0, ← e1] at hz
  have hk' : ∀ q : Nat, q < H.size → ¬ A1 q → T'.heap[q]? = H[q]? := fun q h1 h2 => by rw [e1, hk q (by rw [h0]; exact h1) h2, h0]
  refine ⟨hz, hk', Nat.le_trans hS.1 hz, fun q h1 h2 => ?_, fun q hq => (List.mem_append.mp hq).elim (hS.2.2 q) (fun h => hf _ (hL q h))⟩
  rw [hk' q (Nat.lt_of_lt_of_le h1 hS.1) (fun z => h2 (hA q (Nat.lt_of_lt_of_le h1 hS.1) z))]
  exact hS.2.1 q h1 h2
theorem zy_wi {S : Type} {post : Int32 → S → Prop} {B : S → State → Prop} (hr : zx_Run p l e R s m args below meth c H locs cells slots (F0 m pc ls st0) rest (va_Qi post B A1 a) Xc free) (hS : va_S A0 H0 H locs) (hA : ∀ q, q < H.size → A1 q → A0 q) (hf : ∀ q, free q → A0 q) (kx : zy_K p l e R s m args below meth c H locs cells slots Q (F0 m pc ls rest) Xc)
    (kk : ∀ (r : Int32) (u : S) (t : State) (H1 : Heap) (locs1 : List Loc), t.heap = H1 → post r u → B u t → (∀ q : Nat, q < H.size → ¬ A1 q → H1[q]? = H[q]?) → va_S A0 H0 H1 locs1 → W p l e R s m args below meth c H1 locs1 cells slots Q (F0 m (pc + 3) ls (.int r :: rest))) : W p l e R s m args below meth c H locs cells slots Q (F0 m pc ls st0) := by
  intro T hT X
  rcases hr T hT X with ⟨v, st₀, t, T', L, h0, X', hL, e1, e2, ⟨⟨r, u, hv, hp, hb⟩, hF⟩, st⟩ | ⟨q, E, ce, T', hxe, X', hce, hcv, hcl, hz, hk, st⟩
  · cases hv
    obtain ⟨-, k2, k3⟩ := zy_keep h0 e1 hS hA hf hL hF
    obtain ⟨t2, a1, b1⟩ := kk r u t T'.heap (locs ++ L) e1.symm hp hb k2 k3 T' rfl X'
    exact ⟨t2, st t2 a1, b1⟩
  · obtain ⟨t2, a1, b1⟩ := kx E ce q T'.heap hxe hce hcv hcl hz hk T' rfl X'
    exact ⟨t2, st.trans a1, b1⟩
theorem zy_wl {S : Type} {post : Int64 → S → Prop} {B : S → State → Prop} (hr : zx_Run p l e R s m args below meth c H locs cells slots (F0 m pc ls st0) rest (va_Ql post B A1 a) Xc free) (hS : va_S A0 H0 H locs) (hA : ∀ q, q < H.size → A1 q → A0 q) (hf : ∀ q, free q → A0 q) (kx : zy_K p l e R s m args below meth c H locs cells slots Q (F0 m pc ls rest) Xc)
    (kk : ∀ (r : Int64) (u : S) (t : State) (H1 : Heap) (locs1 : List Loc), t.heap = H1 → post r u → B u t → (∀ q : Nat, q < H.size → ¬ A1 q → H1[q]? = H[q]?) → va_S A0 H0 H1 locs1 → W p l e R s m args below meth c H1 locs1 cells slots Q (F0 m (pc + 3) ls (.long r :: rest))) : W p l e R s m args below meth c H locs cells slots Q (F0 m pc ls st0) := by
  intro T hT X
  rcases hr T hT X with ⟨v, st₀, t, T', L, h0, X', hL, e1, e2, ⟨⟨r, u, hv, hp, hb⟩, hF⟩, st⟩ | ⟨q, E, ce, T', hxe, X', hce, hcv, hcl, hz, hk, st⟩
  · cases hv
    obtain ⟨-, k2, k3⟩ := zy_keep h0 e1 hS hA hf hL hF
    obtain ⟨t2, a1, b1⟩ := kk r u t T'.heap (locs ++ L) e1.symm hp hb k2 k3 T' rfl X'
    exact ⟨t2, st t2 a1, b1⟩
  · obtain ⟨t2, a1, b1⟩ := kx E ce q T'.heap hxe hce hcv hcl hz hk T' rfl X'
    exact ⟨t2, st.trans a1, b1⟩
theorem zy_wv {S : Type} {post : S → Prop} {B : S → State → Prop} (hr : zx_Run p l e R s m args below meth c H locs cells slots (F0 m pc ls st0) rest (va_Qv post B A1 a) Xc free) (hS : va_S A0 H0 H locs) (hA : ∀ q, q < H.size → A1 q → A0 q) (hf : ∀ q, free q → A0 q) (kx : zy_K p l e R s m args below meth c H locs cells slots Q (F0 m pc ls rest) Xc)
    (kk : ∀ (u : S) (t : State) (H1 : Heap) (locs1 : List Loc), t.heap = H1 → post u → B u t → (∀ q : Nat, q < H.size → ¬ A1 q → H1[q]? = H[q]?) → va_S A0 H0 H1 locs1 → W p l e R s m args below meth c H1 locs1 cells slots Q (F0 m (pc + 3) ls rest)) : W p l e R s m args below meth c H locs cells slots Q (F0 m pc ls st0) := by
  intro T hT X
  rcases hr T hT X with ⟨v, st₀, t, T', L, h0, X', hL, e1, e2, ⟨⟨u, hv, hp, hb⟩, hF⟩, st⟩ | ⟨q, E, ce, T', hxe, X', hce, hcv, hcl, hz, hk, st⟩
  · cases hv
    obtain ⟨-, k2, k3⟩ := zy_keep h0 e1 hS hA hf hL hF
    obtain ⟨t2, a1, b1⟩ := kk u t T'.heap (locs ++ L) e1.symm hp hb k2 k3 T' rfl X'
    exact ⟨t2, st t2 a1, b1⟩
  · obtain ⟨t2, a1, b1⟩ := kx E ce q T'.heap hxe hce hcv hcl hz hk T' rfl X'
    exact ⟨t2, st.trans a1, b1⟩
/-- the world where a callee has refused -/
theorem zy_P {D : va_G} {cl : List vw_C} {ws : va_W} {H1 : Heap} (hP : va_P D cl ws H) (hk : ∀ z : Nat, z < H.size → H1[z]? = H[z]?) : va_P D cl ws H1 :=
  hP.kept (fun k q hq => hk q.1 ((hP k q hq).lt))
theorem zy_S {H1 : Heap} (hS : va_S A0 H0 H locs) (hz : H.size ≤ H1.size) (hk : ∀ z : Nat, z < H.size → H1[z]? = H[z]?) : va_S A0 H0 H1 locs :=
  ⟨Nat.le_trans hS.1 hz, fun q h1 h2 => by rw [hk q (Nat.lt_of_lt_of_le h1 hS.1)]; exact hS.2.1 q h1 h2, hS.2.2⟩
/-- caught by the row x; the rows ahead don't take it -/
theorem zy_catch {own name E : String} {ce : Cell} {q : Addr} (hown : s.vm.findClass own = some m.cls) (pre : List ExceptionTableEntry) (x : ExceptionTableEntry) (suf : List ExceptionTableEntry) (hsplit : c.exceptionTable.toList = pre ++ x :: suf)
    (hpass : ∀ z ∈ pre, z.catchType ≠ 0 ∧ ∃ nm : String, (Cond.classLink own z.catchType nm).before args s = true ∧ va_Nc E nm s) (hx : covers x pc = true) (h0 : x.catchType ≠ 0)
    (hlink : (Cond.classLink own x.catchType name).before args s = true) (hcast : (Cond.castable E name).before args s = true) (hcell : H[q]? = some ce) (hv : ce.vm = .none) (hcl : s.vm.findClass E = some ce.cls)
    (kk : W p l e R s m args below meth c H locs cells slots Q (F0 m x.handlerPc ls [.ref q])) : zx_W p l e R s m args below meth c H locs cells slots Q (F0 m pc ls rest) q := by
  intro T hT X
  have hpl : e.platform.magicAccessors = ({} : Platform).magicAccessors := by rw [X.admits.platform]
  obtain ⟨c3, c4, hc3, hc4, hasg⟩ := Cond.castable_spec hcast
  cases Option.some.inj (hc3.symm.trans hcl)
  obtain ⟨c5, hc5, hcl5⟩ := Cond.classLink_spec hown hlink e.platform hpl
  cases Option.some.inj (hc4.symm.trans hc5)
  have hk9 : ∃ k, s.vm.classes[ce.cls]? = some k := by obtain ⟨k9, h9, -⟩ := Vm.findClass_spec hcl; exact ⟨k9, h9⟩
  have hp9 : ∀ z ∈ pre, z.catchType ≠ 0 ∧ ∃ k, s.vm.ClassLinks e.platform m.cls z.catchType k ∧ s.vm.assignable ce.cls k = false := by
    intro z hz
    obtain ⟨hz0, nm, hl1, a8, b8, h1, h2, h3⟩ := hpass z hz
    obtain ⟨c6, hc6, hcl6⟩ := Cond.classLink_spec hown hl1 e.platform hpl
    cases Option.some.inj (h1.symm.trans hcl)
    cases Option.some.inj (h2.symm.trans hc6)
    exact ⟨hz0, _, hcl6, h3⟩
  obtain ⟨vm', X', st⟩ := zy_caught X q (g := F0 m pc ls rest) rfl (by rw [hT]; exact hcell) (by rw [hv]; rfl) hk9 pre x suf hsplit hp9 hx h0 hcl5 hasg
  obtain ⟨t, a1, b1⟩ := kk (T.setVm vm') hT X'
  exact ⟨t, st _ a1, b1⟩
end ZY
/-- the table of a method with handlers -/
theorem zy_table {p : Program} {l : Launch} {y : MethodName} {S : Spec} {cc bytes : ByteArray} {maxL maxL' : Nat} {ret ret' : Option FieldType} {e : Env} {s s₁ : State} {m : MethodId} {args : Array Value} {below : List Frame} {meth : Method} {c : Code} {hh : List (Nat × Nat × Nat × Nat)}
    (B : BodyLoose p l y S cc maxL ret e s m args below meth c s₁) (h : (Cond.codeWith y bytes maxL' ret' hh).before args s = true) : c.exceptionTable.toList.map (fun h => (h.startPc, h.endPc, h.handlerPc, h.catchType)) = hh := by
  obtain ⟨m9, meth9, c9, hn9, h1, h2, -, -, h5, -⟩ := Cond.codeWith_spec h
  cases B.named.symm.trans hn9
  cases B.method.symm.trans h1
  cases (Stand.of_body B).code.symm.trans h2
  exact h5
section ZYR
variable {p : Program} {l : Launch} {e : Env} {R : Room} {s : State} {m : MethodId} {args : Array Value} {below : List Frame} {meth : Method} {c : Code} {H : Heap} {locs : List Loc} {cells slots : Nat}
variable {y : MethodName} {bytes cc : ByteArray} {maxL nL mc ms index : Nat} {ret : Option FieldType} {hh : List (Nat × Nat × Nat × Nat)} {ws : List Cond} {rm : Room} {Pc : Array Value → State → Prop} {Qc : Array Value → State → Outcome → State → Prop} {free : Addr → Prop} {Ts : List Cond} {own : String} {As rest : List Value} {g : JFrame}
/-- a call of a static method with handlers of its own -/
theorem zy_runSW (S : CallFix p m c cc nL s args Ts own) (hM : Met l y ws rm Pc Qc mc ms free) (hrc : rm.cells = mc) (hrs : rm.slots = ms) (hfr : rm.frames + 1 ≤ R.frames) (hlo : 8 + (maxL + 11) + rm.locals ≤ R.locals) (hG : GoodIn Ts ws) (hw : Cond.codeWith y bytes maxL ret hh ∈ ws)
    (hlink : (Cond.methodLink own index y).before args s = true) (hstat : (Cond.static y).before args s = true) (hini : (Cond.initialized y.cls).before args s = true) (hy : y.cls ≠ "java/lang/invoke/MethodHandle" ∧ y.cls ≠ "java/lang/invoke/VarHandle") {n : Nat} (hn : As.length = n) (hlen : (parseMethodDescriptor y.desc).map (fun d => d.parameters.length) = some n) (hp : PreS s H Pc As)
    (hg : g.method = m) (hsize : g.locals.size = nL) (hstack : g.stack = As.reverse ++ rest) (hW : 2 * g.monitorRoom + (rest.map fun v => v.category).sum ≤ 8) (hdg : decode cc g.pc = .ok (.invokestatic index, 3)) (hf : cells + mc ≤ R.cells ∧ slots + ms ≤ R.slots) :
    va_Run p l e R s m args below meth c H locs cells slots mc ms g rest (Qc As.toArray) free := by
  intro T hT X
  obtain ⟨hexec, hb, hml, hown, hts⟩ := S
  obtain ⟨hbl, hpre⟩ := hp
  subst hb
  have hws : ∀ w ∈ ws, ∀ (a' : Array Value) (U : State), s.WarmedH U.vm → w.before a' U = true := fun w hw a' U hU => word_at hU (hG w hw).2 (hts w (hG w hw).1)
  obtain ⟨mk, methM, cM, hnamed, hmethM, -, -, -, -, -, -, hsigM⟩ := Cond.codeWith_spec (hts _ (hG _ hw).1)
  obtain ⟨kP, hkP, -⟩ := className_of_methodNamed hnamed
  obtain ⟨vm₁, X₁, hstep₁⟩ := X.invokestatic hexec hown hlink hnamed hmethM (Cond.static_spec hnamed hmethM hstat) hkP (Cond.initialized_spec (findClass_of_methodNamed hnamed) hkP hini) hy (g := g) hg (argsL := As) (rest := rest) (by rw [hsigM] at hlen; rw [hn]; exact (Option.some.inj hlen).symm) hstack hdg
  have hK : Back l R p e below s args y 3 8 (PreOf R mc ms Pc) (PostOf Qc mc ms free) := va_backW hM hbl hrc hrs hfr hlo hws hw (fun a' U hU => word_at hU (Or.inl (by first | rfl | simp [Cond.onTables, Cond.keeps, Cond.steady])) hini)
  obtain ⟨v, ⟨U', Ls, c9, s9⟩, X', ⟨g', mk', t, L, e1, e2, hq, hl, hL, hc, hs⟩, hst⟩ := hK m meth c ⟨T.setVm vm₁, locs, cells, slots⟩ { g with stack := rest } (.invokestatic index) mk As.toArray X₁ hg (by rw [hsize, hml]) hdg hW (X₁.named hnamed) ⟨hf.1, hf.2, hpre _ hT X₁.warmed⟩
  dsimp only [Pt.U, Pt.locs, Pt.cells, Pt.slots] at X' e1 e2 hl hc hs hst
  subst hl; subst hc; subst hs
  exact ⟨v, (T.setVm vm₁).calling g' mk' As.toArray, t, U', L, hT, X', hL, e1, e2, hq, fun tg h => hstep₁ _ fun acts => by rw [doInvoke_state]; exact hst.trans h⟩
end ZYR
theorem zg_W {y : MethodName} {b : ByteArray} {n : Nat} {r : Option FieldType} {hh : List (Nat × Nat × Nat × Nat)} (h : Cond.codeWith y b n r hh ∈ zw_T) : GoodIn zw_T (Cond.codeWith y b n r hh :: zw_T) := by
  intro w hw
  rcases List.mem_cons.mp hw with rfl | hw
  · exact zg_one h
  · exact zg_one hw
theorem zy_tab {L : List ExceptionTableEntry} {a : Nat × Nat × Nat × Nat} {t : List (Nat × Nat × Nat × Nat)} (h : L.map (fun h => (h.startPc, h.endPc, h.handlerPc, h.catchType)) = a :: t) :
    ∃ (x : ExceptionTableEntry) (L' : List ExceptionTableEntry), L = x :: L' ∧ x.startPc = a.1 ∧ x.endPc = a.2.1 ∧ x.handlerPc = a.2.2.1 ∧ x.catchType = a.2.2.2 ∧ L'.map (fun h => (h.startPc, h.endPc, h.handlerPc, h.catchType)) = t := by
  cases L with
  | nil => cases h
  | cons x L' =>
    rw [List.map_cons] at h
    injection h with h1 h2
    subst h1
    exact ⟨x, L', rfl, rfl, rfl, rfl, rfl, h2⟩
section ZBW
variable {av : List Value} {D : va_G} {cl : List vw_C} {ws : va_W} {tys : List (ClassId × FieldType)} {s : State} {sz : Nat} {H : Heap}
theorem zb_wx : FrameBlind (va_Pc av (fun U => U.heap.size = sz ∧ va_P D cl ws U.heap ∧ va_K D cl tys U ∧ va_D (fun _ => True) ws ∧ zn_ok U ∧ zt_ok U)) :=
  fun a U g mk q => ⟨q.1, q.2.1, q.2.2.1, va_K.moved (u := U) (U := U.calling g mk a) (Vm.Alike.refl U.vm) q.2.2.2.1, q.2.2.2.2.1, zn_same (s := U) (U := U.calling g mk a) rfl q.2.2.2.2.2.1, zt_same (s := U) (U := U.calling g mk a) rfl rfl q.2.2.2.2.2.2⟩
theorem zb_preWX {A : Nat → Prop} (hP : va_P D cl ws s.heap) (hK : va_K D cl tys s) (hD : va_D A ws) (hN : zn_ok s) (hZ : zt_ok s) : ∀ U : State, U.heap = s.heap → s.WarmedH U.vm → va_Pc av (fun U => U.heap.size = s.heap.size ∧ va_P D cl ws U.heap ∧ va_K D cl tys U ∧ va_D (fun _ => True) ws ∧ zn_ok U ∧ zt_ok U) av.toArray U :=
  fun U hU hW => ⟨rfl, by rw [hU], by rw [hU]; exact hP, va_K.moved hW.alike hK, hD.weaken (fun _ _ _ _ => trivial), zn_warm hW hN, zt_move hU hW hZ⟩
end ZBW

