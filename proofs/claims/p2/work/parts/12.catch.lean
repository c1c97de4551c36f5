/-! Callers that catch: the law's own helpers. -/
section ZY
variable {p : Program} {l : Launch} {e : Env} {R : Room} {s : State} {m : MethodId} {args : Array Value} {below : List Frame} {meth : Method} {c : Code} {H : Heap} {locs : List Loc} {cells slots : Nat} {Q : State → Prop}
variable {pc : Nat} {ls : Array Slot} {rest st0 : List Value} {a : Array Value} {A0 A1 : Nat → Prop} {H0 : Heap} {free : Addr → Prop} {Xc : String → Prop}
/-- what goes on where q was thrown over the caller's frame -/
def zy_K (p : Program) (l : Launch) (e : Env) (R : Room) (s : State) (m : MethodId) (args : Array Value) (below : List Frame) (meth : Method) (c : Code) (H : Heap) (locs : List Loc) (cells slots : Nat) (Q : State → Prop) (g : JFrame) (Xc : String → Prop) : Prop :=
  ∀ (E : String) (ce : Cell) (q : Addr) (H1 : Heap), Xc E → H1[q]? = some ce → ce.vm = .none → s.vm.findClass E = some ce.cls → H.size ≤ H1.size → (∀ z : Nat, z < H.size → H1[z]? = H[z]?) → zx_W p l e R s m args below meth c H1 locs (cells + 1) (slots + 6) Q g q
theorem zy_ri {post : Int32 → Prop} (hr : zx_Run p l e R s m args below meth c H locs cells slots (F0 m pc ls st0) rest (zq_Ri post a) Xc (fun _ => False)) (kx : zy_K p l e R s m args below meth c H locs cells slots Q (F0 m pc ls rest) Xc)
    (kk : ∀ r : Int32, post r → W p l e R s m args below meth c H locs cells slots Q (F0 m (pc + 3) ls (.int r :: rest))) : W p l e R s m args below meth c H locs cells slots Q (F0 m pc ls st0) := by
  intro T hT X
  rcases hr T hT X with ⟨v, st₀, t, T', L, h0, X', hL, e1, e2, ⟨r, hv, hp, hh⟩, st⟩ | ⟨q, E, ce, T', hxe, X', hce, hcv, hcl, hz, hk, st⟩
  · cases hv
    obtain rfl := zq_nil hL
    rw [List.append_nil] at X'
    obtain ⟨t2, a1, b1⟩ := kk r hp T' (by rw [e1, hh, h0]) X'
    exact ⟨t2, st t2 a1, b1⟩
  · obtain ⟨t2, a1, b1⟩ := kx E ce q T'.heap hxe hce hcv hcl hz hk T' rfl X'
    exact ⟨t2, st.trans a1, b1⟩
theorem zy_rl {post : Int64 → Prop} (hr : zx_Run p l e R s m args below meth c H locs cells slots (F0 m pc ls st0) rest (zq_Rl post a) Xc (fun _ => False)) (kx : zy_K p l e R s m args below meth c H locs cells slots Q (F0 m pc ls rest) Xc)
    (kk : ∀ r : Int64, post r → W p l e R s m args below meth c H locs cells slots Q (F0 m (pc + 3) ls (.long r :: rest))) : W p l e R s m args below meth c H locs cells slots Q (F0 m pc ls st0) := by
  intro T hT X
  rcases hr T hT X with ⟨v, st₀, t, T', L, h0, X', hL, e1, e2, ⟨r, hv, hp, hh⟩, st⟩ | ⟨q, E, ce, T', hxe, X', hce, hcv, hcl, hz, hk, st⟩
  · cases hv
    obtain rfl := zq_nil hL
    rw [List.append_nil] at X'
    obtain ⟨t2, a1, b1⟩ := kk r hp T' (by rw [e1, hh, h0]) X'
    exact ⟨t2, st t2 a1, b1⟩
  · obtain ⟨t2, a1, b1⟩ := kx E ce q T'.heap hxe hce hcv hcl hz hk T' rfl X'
    exact ⟨t2, st.trans a1, b1⟩
/-- the caller's world behind a callee that wrote -/
theorem zy_keep {st₀ t T' : State} {L : List Loc} (h0 : st₀.heap = H) (e1 : T'.heap = t.heap) (hS : va_S A0 H0 H locs) (hA : ∀ q, q < H.size → A1 q → A0 q) (hf : ∀ q, free q → A0 q) (hL : ∀ q ∈ L, free q.base) (hF : va_F A1 st₀ t) :
    H.size ≤ T'.heap.size ∧ (∀ q : Nat, q < H.size → ¬ A1 q → T'.heap[q]? = H[q]?) ∧ va_S A0 H0 T'.heap (locs ++ L) := by
  obtain ⟨hz, hk⟩ := hF
  rw [h0, ← e1] at hz
  have hk' : ∀ q : Nat, q < H.size → ¬ A1 q → T'.heap[q]? = H[q]? := fun q h1 h2 => by rw [e1, hk q (by rw [h0]; exact h1) h2, h0]
  refine ⟨hz, hk', Nat.le_trans hS.1 hz, fun q h1 h2 => ?_, fun q hq => (List.mem_append.mp hq).elim (hS.2.2 q) (fun h => hf _ (hL q h))⟩
  rw [hk' q (Nat.lt_of_lt_of_le h1 hS.1) (fun z => h2 (hA q (Nat.lt_of_lt_of_le h1 hS.1) z))]
  exact hS.2.1 q h1 h2
theorem zy_wi {S : Type} {post : Int32 → S → Prop} {B : S → State → Prop} (hr : zx_Run p l e R s m args below meth c H locs cells slots (F0 m pc ls st0) rest (va_Qi post B A1 a) Xc free) (hS : va_S A0 H0 H locs) (hA : ∀ q, q < H.size → A1 q → A0 q) (hf : ∀ q, free q → A0 q) (kx : zy_K p l e R s m args below meth c H locs cells slots Q (F0 m pc ls rest) Xc)
    (kk : ∀ (r : Int32) (u : S) (t : State) (H1 : Heap) (locs1 : List Loc), t.heap = H1 → post r u → B u t → (∀ q : Nat, q < H.size → ¬ A1 q → H1[q]? = H[q]?) → va_S A0 H0 H1 locs1 → W p l e R s m args below meth c H1 locs1 cells slots Q (F0 m (pc + 3) ls (.int r :: rest))) : W p l e R s m args below meth c H locs cells slots Q (F0 m pc ls st0) := by
  intro T hT X
  rcases hr T hT X with ⟨v, st₀, t, T', L, h0, X', hL, e1, e2, ⟨⟨r, u, hv, hp, hb⟩, hF⟩, st⟩ | ⟨q, E, ce, T', hxe, X', hce, hcv, hcl, hz, hk, st⟩
  · cases hv
    obtain ⟨-, k2, k3⟩ := zy_keep h0 e1 hS hA hf hL hF
    obtain ⟨t2, a1, b1⟩ := kk r u t T'.heap (locs ++ L) e1.symm hp hb k2 k3 T' rfl X'
    exact ⟨t2, st t2 a1, b1⟩
  · obtain ⟨t2, a1, b1⟩ := kx E ce q T'.heap hxe hce hcv hcl hz hk T' rfl X'
    exact ⟨t2, st.trans a1, b1⟩
theorem zy_wl {S : Type} {post : Int64 → S → Prop} {B : S → State → Prop} (hr : zx_Run p l e R s m args below meth c H locs cells slots (F0 m pc ls st0) rest (va_Ql post B A1 a) Xc free) (hS : va_S A0 H0 H locs) (hA : ∀ q, q < H.size → A1 q → A0 q) (hf : ∀ q, free q → A0 q) (kx : zy_K p l e R s m args below meth c H locs cells slots Q (F0 m pc ls rest) Xc)
    (kk : ∀ (r : Int64) (u : S) (t : State) (H1 : Heap) (locs1 : List Loc), t.heap = H1 → post r u → B u t → (∀ q : Nat, q < H.size → ¬ A1 q → H1[q]? = H[q]?) → va_S A0 H0 H1 locs1 → W p l e R s m args below meth c H1 locs1 cells slots Q (F0 m (pc + 3) ls (.long r :: rest))) : W p l e R s m args below meth c H locs cells slots Q (F0 m pc ls st0) := by
  intro T hT X
  rcases hr T hT X with ⟨v, st₀, t, T', L, h0, X', hL, e1, e2, ⟨⟨r, u, hv, hp, hb⟩, hF⟩, st⟩ | ⟨q, E, ce, T', hxe, X', hce, hcv, hcl, hz, hk, st⟩
  · cases hv
    obtain ⟨-, k2, k3⟩ := zy_keep h0 e1 hS hA hf hL hF
    obtain ⟨t2, a1, b1⟩ := kk r u t T'.heap (locs ++ L) e1.symm hp hb k2 k3 T' rfl X'
    exact ⟨t2, st t2 a1, b1⟩
  · obtain ⟨t2, a1, b1⟩ := kx E ce q T'.heap hxe hce hcv hcl hz hk T' rfl X'
    exact ⟨t2, st.trans a1, b1⟩
theorem zy_wv {S : Type} {post : S → Prop} {B : S → State → Prop} (hr : zx_Run p l e R s m args below meth c H locs cells slots (F0 m pc ls st0) rest (va_Qv post B A1 a) Xc free) (hS : va_S A0 H0 H locs) (hA : ∀ q, q < H.size → A1 q → A0 q) (hf : ∀ q, free q → A0 q) (kx : zy_K p l e R s m args below meth c H locs cells slots Q (F0 m pc ls rest) Xc)
    (kk : ∀ (u : S) (t : State) (H1 : Heap) (locs1 : List Loc), t.heap = H1 → post u → B u t → (∀ q : Nat, q < H.size → ¬ A1 q → H1[q]? = H[q]?) → va_S A0 H0 H1 locs1 → W p l e R s m args below meth c H1 locs1 cells slots Q (F0 m (pc + 3) ls rest)) : W p l e R s m args below meth c H locs cells slots Q (F0 m pc ls st0) := by
  intro T hT X
  rcases hr T hT X with ⟨v, st₀, t, T', L, h0, X', hL, e1, e2, ⟨⟨u, hv, hp, hb⟩, hF⟩, st⟩ | ⟨q, E, ce, T', hxe, X', hce, hcv, hcl, hz, hk, st⟩
  · cases hv
    obtain ⟨-, k2, k3⟩ := zy_keep h0 e1 hS hA hf hL hF
    obtain ⟨t2, a1, b1⟩ := kk u t T'.heap (locs ++ L) e1.symm hp hb k2 k3 T' rfl X'
    exact ⟨t2, st t2 a1, b1⟩
  · obtain ⟨t2, a1, b1⟩ := kx E ce q T'.heap hxe hce hcv hcl hz hk T' rfl X'
    exact ⟨t2, st.trans a1, b1⟩
/-- the world where a callee has refused -/
theorem zy_P {D : va_G} {cl : List vw_C} {ws : va_W} {H1 : Heap} (hP : va_P D cl ws H) (hk : ∀ z : Nat, z < H.size → H1[z]? = H[z]?) : va_P D cl ws H1 :=
  hP.kept (fun k q hq => hk q.1 ((hP k q hq).lt))
theorem zy_S {H1 : Heap} (hS : va_S A0 H0 H locs) (hz : H.size ≤ H1.size) (hk : ∀ z : Nat, z < H.size → H1[z]? = H[z]?) : va_S A0 H0 H1 locs :=
  ⟨Nat.le_trans hS.1 hz, fun q h1 h2 => by rw [hk q (Nat.lt_of_lt_of_le h1 hS.1)]; exact hS.2.1 q h1 h2, hS.2.2⟩
/-- caught by the row x; the rows ahead don't take it -/
theorem zy_catch {own name E : String} {ce : Cell} {q : Addr} (hown : s.vm.findClass own = some m.cls) (pre : List ExceptionTableEntry) (x : ExceptionTableEntry) (suf : List ExceptionTableEntry) (hsplit : c.exceptionTable.toList = pre ++ x :: suf)
    (hpass : ∀ z ∈ pre, z.catchType ≠ 0 ∧ ∃ nm : String, (Cond.classLink own z.catchType nm).before args s = true ∧ va_Nc E nm s) (hx : covers x pc = true) (h0 : x.catchType ≠ 0)
    (hlink : (Cond.classLink own x.catchType name).before args s = true) (hcast : (Cond.castable E name).before args s = true) (hcell : H[q]? = some ce) (hv : ce.vm = .none) (hcl : s.vm.findClass E = some ce.cls)
    (kk : W p l e R s m args below meth c H locs cells slots Q (F0 m x.handlerPc ls [.ref q])) : zx_W p l e R s m args below meth c H locs cells slots Q (F0 m pc ls rest) q := by
  intro T hT X
  have hpl : e.platform.magicAccessors = ({} : Platform).magicAccessors := by rw [X.admits.platform]
  obtain ⟨c3, c4, hc3, hc4, hasg⟩ := Cond.castable_spec hcast
  cases Option.some.inj (hc3.symm.trans hcl)
  obtain ⟨c5, hc5, hcl5⟩ := Cond.classLink_spec hown hlink e.platform hpl
  cases Option.some.inj (hc4.symm.trans hc5)
  have hk9 : ∃ k, s.vm.classes[ce.cls]? = some k := by obtain ⟨k9, h9, -⟩ := Vm.findClass_spec hcl; exact ⟨k9, h9⟩
  have hp9 : ∀ z ∈ pre, RowPassed e.platform s m.cls (F0 m pc ls rest).pc ce.cls z := by
    intro z hz
    obtain ⟨hz0, nm, hl1, a8, b8, h1, h2, h3⟩ := hpass z hz
    obtain ⟨c6, hc6, hcl6⟩ := Cond.classLink_spec hown hl1 e.platform hpl
    cases Option.some.inj (h1.symm.trans hcl)
    cases Option.some.inj (h2.symm.trans hc6)
    exact Or.inr ⟨hz0, _, hcl6, h3⟩
  obtain ⟨vm', X', st⟩ := X.thenCaughtThrough q (g := F0 m pc ls rest) rfl (Steps.refl _) (by rw [hT]; exact hcell) (by rw [hv]; rfl) hk9 pre x suf hsplit hp9 hx (Or.inr ⟨h0, c4, hcl5, hasg⟩)
  obtain ⟨t, a1, b1⟩ := kk (T.setVm vm') hT X'
  exact ⟨t, st.trans a1, b1⟩
end ZY
/-- the table of a method with handlers -/
theorem zy_table {p : Program} {l : Launch} {y : MethodName} {S : Spec} {cc bytes : ByteArray} {maxL maxL' : Nat} {ret ret' : Option FieldType} {e : Env} {s s₁ : State} {m : MethodId} {args : Array Value} {below : List Frame} {meth : Method} {c : Code} {hh : List (Nat × Nat × Nat × Nat)}
    (B : BodyLoose p l y S cc maxL ret e s m args below meth c s₁) (h : (Cond.codeWith y bytes maxL' ret' hh).before args s = true) : c.exceptionTable.toList.map (fun h => (h.startPc, h.endPc, h.handlerPc, h.catchType)) = hh := by
  obtain ⟨m9, meth9, c9, hn9, h1, h2, -, -, h5, -⟩ := Cond.codeWith_spec h
  cases B.named.symm.trans hn9
  cases B.method.symm.trans h1
  cases (Stand.of_body B).code.symm.trans h2
  exact h5

