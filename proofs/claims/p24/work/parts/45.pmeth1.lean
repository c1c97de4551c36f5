section ZN
variable {X : String → Prop}
abbrev zE_I : String := "java/lang/IndexOutOfBoundsException"
abbrev zE_T : String := "java/lang/IllegalStateException"
abbrev zE_R : String := "java/lang/IllegalArgumentException"
abbrev zE_M : String := "java/lang/UnsupportedOperationException"
theorem zr_i0 {A : Prop} (x : X zE_I) : zp_Or_needIndex 0 A X := ⟨fun z => absurd rfl z, fun _ => x⟩
theorem zr_t0 {A : Prop} (x : X zE_T) : zp_Or_needTurn 0 A X := ⟨fun z => absurd rfl z, fun _ => x⟩
theorem zr_r0 {A : Prop} (x : X zE_R) : zp_Or_needRange 0 A X := ⟨fun z => absurd rfl z, fun _ => x⟩
theorem zr_m0 {A : Prop} (x : X zE_M) : zp_Or_needMeaning 0 A X := ⟨fun z => absurd rfl z, fun _ => x⟩
theorem zr_i1 {A : Prop} (k : A) : zp_Or_needIndex 1 A X := ⟨fun _ => k, fun z => absurd z (by decide)⟩
theorem zr_t1 {A : Prop} (k : A) : zp_Or_needTurn 1 A X := ⟨fun _ => k, fun z => absurd z (by decide)⟩
theorem zr_r1 {A : Prop} (k : A) : zp_Or_needRange 1 A X := ⟨fun _ => k, fun z => absurd z (by decide)⟩
theorem zr_m1 {A : Prop} (k : A) : zp_Or_needMeaning 1 A X := ⟨fun _ => k, fun z => absurd z (by decide)⟩
/-- turn, range, meaning, in this order -/
def zo3 (c2 c3 c4 T R M K : Prop) : Prop := (¬ c2 → T) ∧ (c2 → ¬ c3 → R) ∧ (c2 → c3 → ¬ c4 → M) ∧ (c2 → c3 → c4 → K)
theorem zi_rng {n : Nat} {i : Nat} (hi : i < n) (hn : n < 2147483648) : 0 ≤ (nI i).toInt ∧ (nI i).toInt < n := by
  rw [zi_n (by omega)]; omega
theorem zi_ge {n : Nat} {m : Int32} {k : Nat} (hm : m.toInt = k) (hn : n < 2147483648) : m ≤ nI n ↔ k ≤ n := by
  rw [zi_le, hm, zi_n hn]; omega
/-- order -/
theorem zr_order {P : Int32 → (Nat → Int32) → (Nat → Int32) → (Nat → Int32) → Int32 → Prop} {oc od og : Nat → Int32} {n : Nat} {c d t : Int32} (hn : n ≤ 30)
    (x1 : ¬ (0 ≤ c.toInt ∧ c.toInt ≤ 9) → X zE_I)
    (k : 0 ≤ c.toInt ∧ c.toInt ≤ 9 → zo3 True (t.toInt ≤ d.toInt ∧ d.toInt ≤ 9999) (n < 30) (X zE_T) (X zE_R) (X zE_M) (P (nI n) (upd oc n c) (upd od n d) (upd og n (nI n)) (nI (n + 1)))) : zp_Or_order c d oc od og (nI n) t P X := by
  refine zr_isWithin (zr_needIndex x1 (fun c1 => zr_isDayToCome (zr_needRange (fun c3 => (k c1).2.1 trivial c3) (fun c3 => ⟨fun z => zr_m0 ((k c1).2.2.1 trivial c3 ?_), fun z => zr_m1 ?_⟩))))
  · rw [zi_ge (k := 30) rfl (by omega)] at z; omega
  · rw [zi_ge (k := 30) rfl (by omega)] at z
    have kk := (k c1).2.2.2 trivial c3 (by omega)
    unfold zp_Ord_add
    rw [zi_c (by omega), zi_n1]
    have hin := zi_in (n := n) (N := 30) (by omega) (by omega)
    exact ⟨hin, hin, hin, kk⟩
/-- item -/
theorem zr_item_x {P : Int32 → (Nat → Int32) → (Nat → Int32) → Int32 → Prop} {od io fi : Nat → Int32} {p a b c ni : Int32} {no : Nat} (hno : no ≤ 30) (h : ¬ (0 ≤ p.toInt ∧ p.toInt < no)) (x : X zE_I) : zp_Or_item p a b c od (nI no) io fi ni P X :=
  zr_ordHas (by omega) (zr_needIndex (fun _ => x) (fun c1 => absurd c1 h))
theorem zr_item {P : Int32 → (Nat → Int32) → (Nat → Int32) → Int32 → Prop} {od io fi : Nat → Int32} {a b c : Int32} {o no ni : Nat} (hno : no ≤ 30) (hni : ni ≤ 60) (ho : o < no)
    (k : zo3 True ((1 ≤ a.toInt ∧ a.toInt ≤ 100000) ∧ (1 ≤ b.toInt ∧ b.toInt ≤ 100000) ∧ (1 ≤ c.toInt ∧ c.toInt ≤ 100000)) (ni < 60) (X zE_T) (X zE_R) (X zE_M)
      (P (nI ni) (upd io ni (nI o)) (upd (upd (upd (upd fi (6 * ni + 0) a) (6 * ni + 1) b) (6 * ni + 2) c) (6 * ni + 5) (od o)) (nI (ni + 1)))) : zp_Or_item (nI o) a b c od (nI no) io fi (nI ni) P X := by
  refine zr_ordHas (by omega) (zr_needIndex (fun z => absurd (zi_rng ho (by omega)) z) (fun c1 => zr_isSize (zb_br (fun z => zr_r0 (k.2.1 trivial (fun q => z q.1))) (fun y1 => zr_isSize (zb_br (fun z => zr_r0 (k.2.1 trivial (fun q => z q.2.1))) (fun y2 => zr_isSize (zb_br (fun z => zr_r0 (k.2.1 trivial (fun q => z q.2.2))) (fun y3 => zr_r1 ⟨fun z => zr_m0 (k.2.2.1 trivial ⟨y1, y2, y3⟩ ?_), fun z => zr_m1 ?_⟩))))))))
  · rw [zi_ge (k := 60) rfl (by omega)] at z; omega
  · rw [zi_ge (k := 60) rfl (by omega)] at z
    have kk := k.2.2.2 trivial ⟨y1, y2, y3⟩ (by omega)
    refine zr_itmAdd (by omega) (zr_begin (f := 0) (by omega) (by omega) (zr_begin (f := 1) (by omega) (by omega) (zr_begin (f := 2) (by omega) (by omega) ⟨zi_in (by omega) (by omega), zr_begin (f := 5) (by omega) (by omega) ?_⟩)))
    rw [zi_c (by omega)]
    exact kk
/-- weights -/
theorem zr_weights_x {P : (Nat → Int32) → (Nat → Int32) → (Nat → Int32) → (Nat → Int32) → (Nat → Int32) → Prop} {cf cv cg ct cc : Nat → Int32} {p a b t : Int32} {ni : Nat} (hni : ni ≤ 60) (h : ¬ (0 ≤ p.toInt ∧ p.toInt < ni)) (x : X zE_I) : zp_Or_weights p a b (nI ni) cf cv cg ct cc t P X :=
  zr_itmHas (by omega) (zr_needIndex (fun _ => x) (fun c1 => absurd c1 h))
theorem zr_weights {P : (Nat → Int32) → (Nat → Int32) → (Nat → Int32) → (Nat → Int32) → (Nat → Int32) → Prop} {cf cv cg ct cc : Nat → Int32} {a b t : Int32} {i ni c : Nat} (hni : ni ≤ 60) (hi : i < ni) (hc : cc i = nI c) (hc20 : c ≤ 20)
    (k : zo3 True ((0 ≤ a.toInt ∧ a.toInt ≤ 1000000) ∧ (0 ≤ b.toInt ∧ b.toInt ≤ 1000000) ∧ a.toInt ≤ b.toInt) (c + 2 ≤ 20) (X zE_T) (X zE_R) (X zE_M)
      (P (upd (upd cf (20 * i + c) 3) (20 * i + (c + 1)) 4) (upd (upd cv (20 * i + c) a) (20 * i + (c + 1)) b) (upd (upd cg (20 * i + c) t) (20 * i + (c + 1)) t) (upd (upd ct (20 * i + c) t) (20 * i + (c + 1)) t) (upd (upd cc i (nI (c + 1))) i (nI (c + 2))))) :
    zp_Or_weights (nI i) a b (nI ni) cf cv cg ct cc t P X := by
  refine zr_itmHas (by omega) (zr_needIndex (fun z => absurd (zi_rng hi (by omega)) z) (fun c1 => zr_isWeight (zb_br (fun z => zr_r0 (k.2.1 trivial (fun q => z q.1))) (fun y1 => zr_isWeight (zb_br (fun z => zr_r0 (k.2.1 trivial (fun q => z q.2.1))) (fun y2 => ⟨fun z => zr_r0 (k.2.1 trivial (fun q => ?_)), fun z => zr_r1 (zr_hasRoom (m := 2) (by omega) hc hc20 (by omega) (zr_needMeaning (fun w => k.2.2.1 trivial ⟨y1, y2, ?_⟩ w) (fun w => ?_)))⟩))))))
  · rw [zi_lt] at z; omega
  · rw [zi_lt] at z; omega
  · rw [zi_lt] at z
    exact zr_chgAdd (by omega) hc (by omega) (zr_chgAdd (by omega) (up_s _ _ _) (by omega) (k.2.2.2 trivial ⟨y1, y2, by omega⟩ w))
/-- agree -/
theorem zr_agree_x {P : (Nat → Int32) → Prop} {ia : Nat → Int32} {p r : Int32} {ni : Nat} (hni : ni ≤ 60) (h : ¬ (0 ≤ p.toInt ∧ p.toInt < ni)) (x : X zE_I) : zp_Or_agree p r ia (nI ni) P X :=
  zr_itmHas (by omega) (zr_needIndex (fun _ => x) (fun c1 => absurd c1 h))
theorem zr_agree {P : (Nat → Int32) → Prop} {ia : Nat → Int32} {r : Int32} {i ni : Nat} (hni : ni ≤ 60) (hi : i < ni) (k : zo3 True (1 ≤ r.toInt ∧ r.toInt ≤ 99) True (X zE_T) (X zE_R) (X zE_M) (P (upd ia i r))) : zp_Or_agree (nI i) r ia (nI ni) P X := by
  refine zr_itmHas (by omega) (zr_needIndex (fun z => absurd (zi_rng hi (by omega)) z) (fun c1 => zr_isWithin (zr_needRange (fun z => k.2.1 trivial z) (fun z => ⟨zi_in (by omega) (by omega), ?_⟩))))
  rw [zi_c (by omega)]
  exact k.2.2.2 trivial z trivial
/-- change -/
theorem zr_change_x {P : (Nat → Int32) → (Nat → Int32) → (Nat → Int32) → (Nat → Int32) → (Nat → Int32) → Prop} {ia fi cf cv cg ct cc ut : Nat → Int32} {p q a b r t : Int32} {ni : Nat} (hni : ni ≤ 60) (h : ¬ ((0 ≤ p.toInt ∧ p.toInt < ni) ∧ 0 ≤ q.toInt ∧ q.toInt ≤ 5)) (x : X zE_I) : zp_Or_change p q a b r ia fi (nI ni) cf cv cg ct cc ut t P X :=
  zr_itmHas (by omega) (zb_br (fun _ => zr_i0 x) (fun c1 => zr_isField (zb_br (fun _ => zr_i0 x) (fun c2 => absurd ⟨c1, c2⟩ h))))
def zv_ok (f : Nat) (v t : Int) : Prop := (f ≤ 2 → 1 ≤ v ∧ v ≤ 100000) ∧ (f = 3 ∨ f = 4 → 0 ≤ v ∧ v ≤ 1000000) ∧ (f = 5 → t ≤ v ∧ v ≤ 9999)
theorem zr_isValueOf {P : Int32 → Prop} {f : Nat} {v t : Int32} (hf : f < 6) (h1 : zv_ok f v.toInt t.toInt → P 1) (h0 : ¬ zv_ok f v.toInt t.toInt → P 0) : zp_Or_isValueOf (nI f) v t P := by
  have e2 : (2 : Int32).toInt = 2 := by decide
  have go : ∀ (c : Prop) [Decidable c], (zv_ok f v.toInt t.toInt ↔ c) → narrow .boolean (.int (zb_ c)) = .int (zb_ c) ∧ P (zb_ c) := by
    intro c hd hcc
    refine ⟨zb_nar c, ?_⟩
    by_cases hx : c
    · rw [zb_t hx]; exact h1 (hcc.mpr hx)
    · rw [zb_f hx]; exact h0 (fun q => hx (hcc.mp q))
  refine ⟨fun z => ⟨fun y => zr_isWeight (go _ ?_), fun y => zr_isDayToCome (go _ ?_)⟩, fun z => zr_isSize (go _ ?_)⟩
  · rw [zi_lt, e2, zi_n (by omega)] at z
    have y' : f ≠ 5 := fun q => y (by rw [q]; rfl)
    unfold zv_ok; omega
  · have y' : f = 5 := zi_nn (by omega) (by omega) y
    unfold zv_ok; omega
  · rw [zi_lt, e2, zi_n (by omega)] at z
    unfold zv_ok; omega
theorem zr_keeps {P : Int32 → Prop} {fi cf cv cg cc : Nat → Int32} {i f c : Nat} {v d : Int32} (hi : i < 60) (hf : f < 6) (hc : cc i = nI c) (hc20 : c ≤ 20)
    (h1 : ((f = 3 → v.toInt ≤ (zf_on fi cf cv cg cc i 4 d).toInt) ∧ (f = 4 → (zf_on fi cf cv cg cc i 3 d).toInt ≤ v.toInt)) → P 1)
    (h0 : ¬ ((f = 3 → v.toInt ≤ (zf_on fi cf cv cg cc i 4 d).toInt) ∧ (f = 4 → (zf_on fi cf cv cg cc i 3 d).toInt ≤ v.toInt)) → P 0) : zp_Or_keepsLeastWithinMost (nI i) (nI f) v d fi cf cv cg cc P := by
  have n3 : nI f = 3 ↔ f = 3 := ⟨fun z => zi_nn (by omega) (by omega) z, fun z => by rw [z]; rfl⟩
  have n4 : nI f = 4 ↔ f = 4 := ⟨fun z => zi_nn (by omega) (by omega) z, fun z => by rw [z]; rfl⟩
  unfold zp_Or_keepsLeastWithinMost
  rw [n3, n4]
  refine ⟨fun z => ⟨fun y => ⟨rfl, h1 ⟨fun q => absurd q z, fun q => absurd q y⟩⟩, fun y => zr_valueOn (f := 3) hi (by omega) hc hc20 ⟨fun w => ⟨rfl, h0 (fun q => ?_)⟩, fun w => ⟨rfl, h1 ⟨fun q => absurd q z, fun _ => ?_⟩⟩⟩⟩,
    fun z => zr_valueOn (f := 4) hi (by omega) hc hc20 ⟨fun w => ⟨rfl, h0 (fun q => ?_)⟩, fun w => ⟨rfl, h1 ⟨fun _ => ?_, fun q => by omega⟩⟩⟩⟩
  · rw [zi_lt] at w; exact absurd (q.2 y) (Int.not_le.mpr w)
  · rw [zi_lt] at w; exact Int.not_lt.mp w
  · rw [zi_lt] at w; exact absurd (q.1 z) (Int.not_le.mpr w)
  · rw [zi_lt] at w; exact Int.not_lt.mp w
theorem zr_change {P : (Nat → Int32) → (Nat → Int32) → (Nat → Int32) → (Nat → Int32) → (Nat → Int32) → Prop} {ia fi cf cv cg ct cc ut : Nat → Int32} {a b r t : Int32} {i f ni c : Nat} (hni : ni ≤ 60) (hi : i < ni) (hf : f < 6) (hc : cc i = nI c) (hc20 : c ≤ 20)
    (k : zo3 (2 < f ∨ ut i = 0 ∨ (ia i ≠ 0 ∧ ia i = r)) (zv_ok f a.toInt t.toInt ∧ 0 ≤ b.toInt ∧ b.toInt ≤ 9999)
      (((f = 3 → a.toInt ≤ (zf_on fi cf cv cg cc i 4 b).toInt) ∧ (f = 4 → (zf_on fi cf cv cg cc i 3 b).toInt ≤ a.toInt)) ∧ c + 1 ≤ 20) (X zE_T) (X zE_R) (X zE_M)
      (P (upd cf (20 * i + c) (nI f)) (upd cv (20 * i + c) a) (upd cg (20 * i + c) b) (upd ct (20 * i + c) t) (upd cc i (nI (c + 1))))) : zp_Or_change (nI i) (nI f) a b r ia fi (nI ni) cf cv cg ct cc ut t P X := by
  have e2 : (2 : Int32).toInt = 2 := by decide
  have hf5 : 0 ≤ (nI f).toInt ∧ (nI f).toInt ≤ 5 := by rw [zi_n (by omega)]; omega
  have main : (2 < f ∨ ut i = 0 ∨ (ia i ≠ 0 ∧ ia i = r)) → zp_Or_change_61 (nI i) (nI f) a b fi t P X 1 cf cv cg ct cc := by
    intro c2
    refine zr_t1 (zr_isValueOf hf (fun z => ⟨fun q => absurd q (by decide), fun _ => zr_isDay (zb_br (fun y => zr_r0 (k.2.1 c2 (fun q => y q.2))) (fun y => zr_r1 ?_))⟩) (fun z => ⟨fun _ => zr_r0 (k.2.1 c2 (fun q => z q.1)), fun q => absurd rfl q⟩))
    refine zr_keeps (by omega) hf hc hc20 (fun w => ⟨fun q => absurd q (by decide), fun _ => zr_hasRoom (m := 1) (by omega) hc hc20 (by omega) (zb_br (fun v => zr_m0 (k.2.2.1 c2 ⟨z, y⟩ (fun q => v q.2))) (fun v => zr_m1 ?_))⟩) (fun w => ⟨fun _ => zr_m0 (k.2.2.1 c2 ⟨z, y⟩ (fun q => w q.1)), fun q => absurd rfl q⟩)
    exact zr_chgAdd (by omega) hc (by omega) (k.2.2.2 c2 ⟨z, y⟩ ⟨w, v⟩)
  refine zr_itmHas (by omega) (zb_br (fun z => absurd (zi_rng hi (by omega)) z) (fun _ => zr_isField (zb_br (fun z => absurd hf5 z) (fun _ => zr_i1 ⟨fun z => main (Or.inl ?_), fun z => ⟨zi_in (by omega) (by omega), ?_⟩⟩))))
  · rw [zi_lt, e2, zi_n (by omega)] at z; omega
  · rw [zi_lt, e2, zi_n (by omega)] at z
    rw [zi_c (by omega)]
    refine ⟨fun y => main (Or.inr (Or.inl y)), fun y => zr_isAgreed (by omega) (zb_br (fun w => zr_t0 (k.1 ?_)) (fun w => main (Or.inr (Or.inr w))))⟩
    intro q
    rcases q with q | q | q
    · omega
    · exact y q
    · exact w q
/-- field -/
theorem zr_field_x {P : Int32 → Prop} {fi cf cv cg cc : Nat → Int32} {p q d : Int32} {ni : Nat} (hni : ni ≤ 60) (h : ¬ ((0 ≤ p.toInt ∧ p.toInt < ni) ∧ 0 ≤ q.toInt ∧ q.toInt ≤ 5)) (x : X zE_I) : zp_Or_field p q d fi (nI ni) cf cv cg cc P X :=
  zr_itmHas (by omega) (zb_br (fun _ => zr_i0 x) (fun c1 => zr_isField (zb_br (fun _ => zr_i0 x) (fun c2 => absurd ⟨c1, c2⟩ h))))
theorem zr_field {P : Int32 → Prop} {fi cf cv cg cc : Nat → Int32} {d : Int32} {i f ni c : Nat} (hni : ni ≤ 60) (hi : i < ni) (hf : f < 6) (hc : cc i = nI c) (hc20 : c ≤ 20)
    (k : zo3 True (0 ≤ d.toInt ∧ d.toInt ≤ 9999) True (X zE_T) (X zE_R) (X zE_M) (P (zf_on fi cf cv cg cc i f d))) : zp_Or_field (nI i) (nI f) d fi (nI ni) cf cv cg cc P X := by
  have hf5 : 0 ≤ (nI f).toInt ∧ (nI f).toInt ≤ 5 := by rw [zi_n (by omega)]; omega
  exact zr_itmHas (by omega) (zb_br (fun z => absurd (zi_rng hi (by omega)) z) (fun _ => zr_isField (zb_br (fun z => absurd hf5 z) (fun _ => zr_i1 (zr_isDay (zr_needRange (fun z => k.2.1 trivial z) (fun z => zr_valueOn (by omega) hf hc hc20 (k.2.2.2 trivial z trivial))))))))
/-- history -/
theorem zr_history_x {P : Int32 → Prop} {cf cv cg ct cc : Nat → Int32} {p j w : Int32} {ni : Nat} (hni : ni ≤ 60) (h : ¬ (0 ≤ p.toInt ∧ p.toInt < ni)) (x : X zE_I) : zp_Or_history p j w (nI ni) cf cv cg ct cc P X :=
  zr_itmHas (by omega) (zb_br (fun _ => zr_i0 x) (fun c1 => absurd c1 h))
theorem zr_history_y {P : Int32 → Prop} {cf cv cg ct cc : Nat → Int32} {j w : Int32} {i ni c : Nat} (hni : ni ≤ 60) (hi : i < ni) (hc : cc i = nI c) (hc20 : c ≤ 20) (h : ¬ ((0 ≤ j.toInt ∧ j.toInt < c) ∧ 0 ≤ w.toInt ∧ w.toInt ≤ 3)) (x : X zE_I) : zp_Or_history (nI i) j w (nI ni) cf cv cg ct cc P X :=
  zr_itmHas (by omega) (zb_br (fun _ => zr_i0 x) (fun _ => zr_chgHas (by omega) hc hc20 (zb_br (fun _ => zr_i0 x) (fun c1 => zr_isWithin (zb_br (fun _ => zr_i0 x) (fun c2 => absurd ⟨c1, c2⟩ h))))))
theorem zr_history {P : Int32 → Prop} {cf cv cg ct cc : Nat → Int32} {w : Int32} {i j ni c : Nat} (hni : ni ≤ 60) (hi : i < ni) (hc : cc i = nI c) (hc20 : c ≤ 20) (hj : j < c) (hw : 0 ≤ w.toInt ∧ w.toInt ≤ 3)
    (k : P (if w = 0 then cf (20 * i + j) else if w = 1 then cv (20 * i + j) else if w = 2 then cg (20 * i + j) else ct (20 * i + j))) : zp_Or_history (nI i) (nI j) w (nI ni) cf cv cg ct cc P X := by
  have e : (nI i * 20 + nI j : Int32) = nI (20 * i + j) := by
    rw [show (20 : Int32) = nI 20 from by decide, zi_nm, zi_na, Nat.mul_comm]
  refine zr_itmHas (by omega) (zb_br (fun z => absurd (zi_rng hi (by omega)) z) (fun _ => zr_chgHas (by omega) hc hc20 (zb_br (fun z => absurd (zi_rng hj (by omega)) z) (fun _ => zr_isWithin (zb_br (fun z => absurd hw z) (fun _ => zr_i1 ?_))))))
  intro y hy
  rw [e] at hy
  subst hy
  rw [zi_c (by omega)]
  have hin := zi_in (n := 20 * i + j) (N := 1200) (by omega) (by omega)
  refine ⟨fun z => ⟨hin, ?_⟩, fun z => ⟨hin, ?_⟩, fun z => ⟨hin, ?_⟩, fun z1 z2 z3 => ⟨hin, ?_⟩⟩
  · rwa [if_pos z] at k
  · subst z; exact k
  · subst z; exact k
  · rwa [if_neg z1, if_neg z2, if_neg z3] at k
/-- split -/
theorem zr_split_x {P : Int32 → (Nat → Int32) → (Nat → Int32) → Int32 → (Nat → Int32) → (Nat → Int32) → (Nat → Int32) → (Nat → Int32) → (Nat → Int32) → Prop} {io fi cf cv cg ct cc ut : Nat → Int32} {p q t : Int32} {ni : Nat} (hni : ni ≤ 60) (h : ¬ (0 ≤ p.toInt ∧ p.toInt < ni)) (x : X zE_I) : zp_Or_split p q io fi (nI ni) cf cv cg ct cc ut t P X :=
  zr_itmHas (by omega) (zr_needIndex (fun _ => x) (fun c1 => absurd c1 h))
theorem zr_split {P : Int32 → (Nat → Int32) → (Nat → Int32) → Int32 → (Nat → Int32) → (Nat → Int32) → (Nat → Int32) → (Nat → Int32) → (Nat → Int32) → Prop} {io fi cf cv cg ct cc ut : Nat → Int32} {q t : Int32} {i ni c : Nat} (hni : ni ≤ 60) (hi : i < ni) (hc : cc i = nI c) (hc20 : c ≤ 20)
    (k : zo3 (ut i = 0) (1 ≤ q.toInt ∧ q.toInt ≤ (zf_on fi cf cv cg cc i 4 t).toInt) (ni < 60 ∧ c + 2 ≤ 20) (X zE_T) (X zE_R) (X zE_M)
      (∀ y : Int32, y = (if q < zf_on fi cf cv cg cc i 3 t then q else zf_on fi cf cv cg cc i 3 t) → P (nI ni) (upd io ni (io i)) (upd (upd (zf_cp fi cf cv cg cc i ni 6 t) (6 * ni + 3) y) (6 * ni + 4) q) (nI (ni + 1))
        (upd (upd cf (20 * i + c) 4) (20 * i + (c + 1)) 3) (upd (upd cv (20 * i + c) (zf_on fi cf cv cg cc i 4 t - q)) (20 * i + (c + 1)) (zf_on fi cf cv cg cc i 3 t - y)) (upd (upd cg (20 * i + c) t) (20 * i + (c + 1)) t) (upd (upd ct (20 * i + c) t) (20 * i + (c + 1)) t) (upd (upd cc i (nI (c + 1))) i (nI (c + 2))))) :
    zp_Or_split (nI i) q io fi (nI ni) cf cv cg ct cc ut t P X := by
  refine zr_itmHas (by omega) (zr_needIndex (fun z => absurd (zi_rng hi (by omega)) z) (fun c1 => ⟨zi_in (by omega) (by omega), ?_⟩))
  rw [zi_c (by omega)]
  refine ⟨fun z => zr_t0 (k.1 z), fun z => zr_t1 (zr_valueOn (f := 4) (by omega) (by omega) hc hc20 (zr_isWithin (zr_needRange (fun y => k.2.1 z y) (fun y => ⟨fun w => zr_m0 (k.2.2.1 z y (fun q => ?_)), fun w => zr_hasRoom (m := 2) (by omega) hc hc20 (by omega) (zb_br (fun v => zr_m0 (k.2.2.1 z y (fun q => v q.2))) (fun v => zr_m1 (zr_valueOn (f := 3) (by omega) (by omega) hc hc20 (fun y2 h2 => ?_))))⟩))))⟩
  · rw [zi_ge (k := 60) rfl (by omega)] at w; omega
  · rw [zi_ge (k := 60) rfl (by omega)] at w
    have kk := k.2.2.2 z y ⟨by omega, v⟩ y2 h2
    exact zr_copyOfToday hi (by omega) hc hc20 (zr_begin (f := 3) (by omega) (by omega) (zr_begin (f := 4) (by omega) (by omega) (zr_chgAdd (by omega) hc (by omega) (zr_chgAdd (by omega) (up_s _ _ _) (by omega) kk))))
end ZN
