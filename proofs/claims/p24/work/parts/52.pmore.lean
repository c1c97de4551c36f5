/-! the second voice: its calls -/
theorem zm_order {Q : Int32 → Int32 → Int32 → (Nat → Int32) → (Nat → Int32) → (Nat → Int32) → Prop} {oc od og : Nat → Int32} {n : Nat} {c d t th : Int32} (hn : n ≤ 30)
    (x : ¬ (0 ≤ c.toInt ∧ c.toInt ≤ 9) → Q 0 1 (nI n) oc od og)
    (k : 0 ≤ c.toInt ∧ c.toInt ≤ 9 → zo3 True (t.toInt ≤ d.toInt ∧ d.toInt ≤ 9999) (n < 30) False (Q 0 2 (nI n) oc od og) (Q 0 3 (nI n) oc od og) (Q (nI n) 0 (nI (n + 1)) (upd oc n c) (upd od n d) (upd og n (nI n)))) :
    zp_Mo_order c d th t (nI n) oc od og Q := by
  refine zm_in (zm_in ⟨fun z => zm_goes3 (fun e => zg0 (x (zb_0 e))) (fun a e => zg0 ((k (zb_1 a)).2.1 trivial (zb_0 e))) (fun a b _ => zg0 ((k (zb_1 a)).2.2.1 trivial (zb_1 b) ?_)) (fun _ _ e => absurd rfl e),
    fun z => zm_goes3 (fun e => zg0 (x (zb_0 e))) (fun a e => zg0 ((k (zb_1 a)).2.1 trivial (zb_0 e))) (fun _ _ e => z10 e) (fun a b _ => zg1 ?_)⟩)
  · rw [zi_ge (k := 30) rfl (by omega)] at z; omega
  · rw [zi_ge (k := 30) rfl (by omega)] at z
    have kk := (k (zb_1 a)).2.2.2 trivial (zb_1 b) (by omega)
    rw [zi_c (by omega), zi_n1, zi_n1s]
    have hin := zi_in (n := n) (N := 30) (by omega) (by omega)
    exact ⟨hin, hin, hin, kk⟩
theorem zm_item_x {Q : Int32 → Int32 → Int32 → (Nat → Int32) → (Nat → Int32) → Prop} {od io fi : Nat → Int32} {p a b c ni th : Int32} {no : Nat} (hno : no ≤ 30) (h : ¬ (0 ≤ p.toInt ∧ p.toInt < no)) (x : Q 0 1 ni io fi) : zp_Mo_item p a b c th (nI no) od ni io fi Q := by
  have L : ∀ s2 : Int32, zp_Mo_item_33 p a b c od Q (zb_ (0 ≤ p.toInt ∧ p.toInt < no)) s2 th ni io fi := fun s2 =>
    ⟨fun _ => zm_goes3 (fun _ => zg0 x) (fun e => absurd (zb_f h) e) (fun e => absurd (zb_f h) e) (fun e => absurd (zb_f h) e), fun _ => zm_goes3 (fun _ => zg0 x) (fun e => absurd (zb_f h) e) (fun e => absurd (zb_f h) e) (fun e => absurd (zb_f h) e)⟩
  exact zm_isOrder (by omega) (zm_isSize (zb_br (fun _ => L 0) (fun _ => zm_isSize (zb_br (fun _ => L 0) (fun _ => zm_isSize (zb_br (fun _ => L 0) (fun _ => L 1)))))))
theorem zm_item {Q : Int32 → Int32 → Int32 → (Nat → Int32) → (Nat → Int32) → Prop} {od io fi : Nat → Int32} {a b c th : Int32} {o no ni : Nat} (hno : no ≤ 30) (hni : ni ≤ 60) (ho : o < no)
    (k : zo3 True ((1 ≤ a.toInt ∧ a.toInt ≤ 100000) ∧ (1 ≤ b.toInt ∧ b.toInt ≤ 100000) ∧ (1 ≤ c.toInt ∧ c.toInt ≤ 100000)) (ni < 60) False (Q 0 2 (nI ni) io fi) (Q 0 3 (nI ni) io fi)
      (Q (nI ni) 0 (nI (ni + 1)) (upd io ni (nI o)) (zm_six fi ni a b c 0 0 (od o)))) : zp_Mo_item (nI o) a b c th (nI no) od (nI ni) io fi Q := by
  have hr := zi_rng ho (by omega : no < 2147483648)
  have L0 : ¬ ((1 ≤ a.toInt ∧ a.toInt ≤ 100000) ∧ (1 ≤ b.toInt ∧ b.toInt ≤ 100000) ∧ (1 ≤ c.toInt ∧ c.toInt ≤ 100000)) → zp_Mo_item_33 (nI o) a b c od Q (zb_ (0 ≤ (nI o).toInt ∧ (nI o).toInt < no)) 0 th (nI ni) io fi := fun h =>
    ⟨fun _ => zm_goes3 (fun e => absurd hr (zb_0 e)) (fun _ _ => zg0 (k.2.1 trivial h)) (fun _ e => absurd rfl e) (fun _ e => absurd rfl e), fun _ => zm_goes3 (fun e => absurd hr (zb_0 e)) (fun _ _ => zg0 (k.2.1 trivial h)) (fun _ e => absurd rfl e) (fun _ e => absurd rfl e)⟩
  have L1 : ((1 ≤ a.toInt ∧ a.toInt ≤ 100000) ∧ (1 ≤ b.toInt ∧ b.toInt ≤ 100000) ∧ (1 ≤ c.toInt ∧ c.toInt ≤ 100000)) → zp_Mo_item_33 (nI o) a b c od Q (zb_ (0 ≤ (nI o).toInt ∧ (nI o).toInt < no)) 1 th (nI ni) io fi := fun h => by
    refine ⟨fun z => zm_goes3 (fun e => absurd hr (zb_0 e)) (fun _ e => z10 e) (fun _ _ _ => zg0 (k.2.2.1 trivial h ?_)) (fun _ _ e => absurd rfl e), fun z => zm_goes3 (fun e => absurd hr (zb_0 e)) (fun _ e => z10 e) (fun _ _ e => z10 e) (fun _ _ _ => zg1 ⟨zi_in (by omega) (by omega), ?_⟩)⟩
    · rw [zi_ge (k := 60) rfl (by omega)] at z; omega
    · rw [zi_ge (k := 60) rfl (by omega)] at z
      have kk := k.2.2.2 trivial h (by omega)
      rw [zi_c (by omega)]
      exact zm_makes (by omega) kk
  exact zm_isOrder (by omega) (zm_isSize (zb_br (fun z => L0 (fun q => z q.1)) (fun y1 => zm_isSize (zb_br (fun z => L0 (fun q => z q.2.1)) (fun y2 => zm_isSize (zb_br (fun z => L0 (fun q => z q.2.2)) (fun y3 => L1 ⟨y1, y2, y3⟩)))))))
theorem zm_weights_x {Q : Int32 → (Nat → Int32) → (Nat → Int32) → (Nat → Int32) → (Nat → Int32) → (Nat → Int32) → Prop} {cf cv cg ct cc : Nat → Int32} {p a b t th : Int32} {ni : Nat} (hni : ni ≤ 60) (h : ¬ (0 ≤ p.toInt ∧ p.toInt < ni)) (x : Q 1 cc cf cv cg ct) : zp_Mo_weights p a b th t (nI ni) cc cf cv cg ct Q := by
  have L : ∀ s2 : Int32, zp_Mo_weights_30 p a b t (nI ni) Q (zb_ (0 ≤ p.toInt ∧ p.toInt < ni)) s2 th cc cf cv cg ct := fun s2 =>
    zm_isItem (by omega) (zb_br (fun _ => zm_goes3 (fun _ => zg0 x) (fun e => absurd (zb_f h) e) (fun e => absurd (zb_f h) e) (fun e => absurd (zb_f h) e)) (fun z => absurd z h))
  exact zm_isItem (by omega) (zm_isWeight (zb_br (fun _ => L 0) (fun _ => zm_isWeight (zb_br (fun _ => L 0) (fun _ => ⟨fun _ => L 0, fun _ => L 1⟩)))))
theorem zm_weights {Q : Int32 → (Nat → Int32) → (Nat → Int32) → (Nat → Int32) → (Nat → Int32) → (Nat → Int32) → Prop} {cf cv cg ct cc : Nat → Int32} {a b t th : Int32} {i ni c : Nat} (hni : ni ≤ 60) (hi : i < ni) (hc : cc i = nI c) (hc20 : c ≤ 20)
    (k : zo3 True ((0 ≤ a.toInt ∧ a.toInt ≤ 1000000) ∧ (0 ≤ b.toInt ∧ b.toInt ≤ 1000000) ∧ a.toInt ≤ b.toInt) (c + 2 ≤ 20) False (Q 2 cc cf cv cg ct) (Q 3 cc cf cv cg ct)
      (Q 0 (upd (upd cc i (nI (c + 1))) i (nI (c + 2))) (upd (upd cf (20 * i + c) 3) (20 * i + (c + 1)) 4) (upd (upd cv (20 * i + c) a) (20 * i + (c + 1)) b) (upd (upd cg (20 * i + c) t) (20 * i + (c + 1)) t) (upd (upd ct (20 * i + c) t) (20 * i + (c + 1)) t))) :
    zp_Mo_weights (nI i) a b th t (nI ni) cc cf cv cg ct Q := by
  have hr := zi_rng hi (by omega : ni < 2147483648)
  have e18 : (18 : Int32).toInt = 18 := by decide
  have L0 : ¬ ((0 ≤ a.toInt ∧ a.toInt ≤ 1000000) ∧ (0 ≤ b.toInt ∧ b.toInt ≤ 1000000) ∧ a.toInt ≤ b.toInt) → zp_Mo_weights_30 (nI i) a b t (nI ni) Q (zb_ (0 ≤ (nI i).toInt ∧ (nI i).toInt < ni)) 0 th cc cf cv cg ct := fun h =>
    zm_isItem (by omega) (zb_br (fun z => absurd hr z) (fun _ => ⟨zi_in (by omega) (by omega), fun _ => zm_goes3 (fun e => absurd hr (zb_0 e)) (fun _ _ => zg0 (k.2.1 trivial h)) (fun _ e => absurd rfl e) (fun _ e => absurd rfl e), fun _ => zm_goes3 (fun e => absurd hr (zb_0 e)) (fun _ _ => zg0 (k.2.1 trivial h)) (fun _ e => absurd rfl e) (fun _ e => absurd rfl e)⟩))
  have L1 : ((0 ≤ a.toInt ∧ a.toInt ≤ 1000000) ∧ (0 ≤ b.toInt ∧ b.toInt ≤ 1000000) ∧ a.toInt ≤ b.toInt) → zp_Mo_weights_30 (nI i) a b t (nI ni) Q (zb_ (0 ≤ (nI i).toInt ∧ (nI i).toInt < ni)) 1 th cc cf cv cg ct := fun h => by
    refine zm_isItem (by omega) (zb_br (fun z => absurd hr z) (fun _ => ⟨zi_in (by omega) (by omega), ?_⟩))
    rw [zi_c (by omega), hc]
    refine ⟨fun z => zm_goes3 (fun e => absurd hr (zb_0 e)) (fun _ e => z10 e) (fun _ _ _ => zg0 (k.2.2.1 trivial h ?_)) (fun _ _ e => absurd rfl e), fun z => zm_goes3 (fun e => absurd hr (zb_0 e)) (fun _ e => z10 e) (fun _ _ e => z10 e) (fun _ _ _ => zg1 ?_)⟩
    · rw [zi_lt, zi_n (by omega), e18] at z; omega
    · rw [zi_lt, zi_n (by omega), e18] at z
      exact zm_tells (by omega) hc (by omega) (zm_tells (by omega) (up_s _ _ _) (by omega) (k.2.2.2 trivial h (by omega)))
  refine zm_isItem (by omega) (zm_isWeight (zb_br (fun z => L0 (fun q => z q.1)) (fun y1 => zm_isWeight (zb_br (fun z => L0 (fun q => z q.2.1)) (fun y2 => ⟨fun z => L0 (fun q => ?_), fun z => L1 ⟨y1, y2, ?_⟩⟩)))))
  · rw [zi_lt] at z; omega
  · rw [zi_lt] at z; omega
theorem zm_agree_x {Q : Int32 → (Nat → Int32) → Prop} {ia : Nat → Int32} {p r th : Int32} {ni : Nat} (hni : ni ≤ 60) (h : ¬ (0 ≤ p.toInt ∧ p.toInt < ni)) (x : Q 1 ia) : zp_Mo_agree p r th (nI ni) ia Q :=
  zm_isItem (by omega) (zm_in (zm_goes2 (fun _ => zh0 x) (fun e => absurd (zb_f h) e) (fun e => absurd (zb_f h) e)))
theorem zm_agree {Q : Int32 → (Nat → Int32) → Prop} {ia : Nat → Int32} {r th : Int32} {i ni : Nat} (hni : ni ≤ 60) (hi : i < ni) (k : zo3 True (1 ≤ r.toInt ∧ r.toInt ≤ 99) True False (Q 2 ia) False (Q 0 (upd ia i r))) : zp_Mo_agree (nI i) r th (nI ni) ia Q := by
  have hr := zi_rng hi (by omega : ni < 2147483648)
  refine zm_isItem (by omega) (zm_in (zm_goes2 (fun e => absurd hr (zb_0 e)) (fun _ e => zh0 (k.2.1 trivial (zb_0 e))) (fun _ e => zh1 ⟨zi_in (by omega) (by omega), ?_⟩)))
  rw [zi_c (by omega)]
  exact k.2.2.2 trivial (zb_1 e) trivial
theorem zm_change_x {Q : Int32 → (Nat → Int32) → (Nat → Int32) → (Nat → Int32) → (Nat → Int32) → (Nat → Int32) → Prop} {fi ia cf cv cg ct cc ui : Nat → Int32} {p q a b r t th nu : Int32} {ni : Nat} (hni : ni ≤ 60) (h : ¬ ((0 ≤ p.toInt ∧ p.toInt < ni) ∧ 0 ≤ q.toInt ∧ q.toInt ≤ 5)) (x : Q 1 cc cf cv cg ct) :
    zp_Mo_change p q a b r th t (nI ni) fi ia cc cf cv cg ct nu ui Q := by
  have L1 : ∀ s : Int32, zp_Mo_change_113 p q a b t fi Q 0 0 0 s th cc cf cv cg ct := fun s => ⟨fun _ => zm_goes (fun _ => zh0 x) (fun e => absurd rfl e) (fun e => absurd rfl e) (fun e => absurd rfl e) (fun e => absurd rfl e), fun e => absurd rfl e⟩
  have L2 : zp_Mo_change_22 p q a b r t fi ia nu ui Q 0 th cc cf cv cg ct := zh0 (zh0 ⟨fun _ => L1 0, fun _ => ⟨fun _ => L1 0, fun _ => L1 1⟩⟩)
  exact zm_isItem (by omega) (zb_br (fun _ => L2) (fun y => zm_in (zb_br (fun _ => L2) (fun z => absurd ⟨y, z⟩ h))))
theorem zm_change {Q : Int32 → (Nat → Int32) → (Nat → Int32) → (Nat → Int32) → (Nat → Int32) → (Nat → Int32) → Prop} {fi ia cf cv cg ct cc ui : Nat → Int32} {a b r t th : Int32} {i f ni nu c : Nat} (hni : ni ≤ 60) (hnu : nu ≤ 200) (hi : i < ni) (hf : f < 6) (hC : zj_c cf cv cg cc ni) (hc : cc i = nI c) (hc20 : c ≤ 20) (hia : 0 ≤ (ia i).toInt)
    (k : zo3 (2 < f ∨ (∀ j, j < nu → ui j ≠ nI i) ∨ (ia i ≠ 0 ∧ ia i = r)) (zv_ok f a.toInt t.toInt ∧ 0 ≤ b.toInt ∧ b.toInt ≤ 9999)
      (((f = 3 → a.toInt ≤ (zf_on fi cf cv cg cc i 4 b).toInt) ∧ (f = 4 → (zf_on fi cf cv cg cc i 3 b).toInt ≤ a.toInt)) ∧ c + 1 ≤ 20) (Q 2 cc cf cv cg ct) (Q 3 cc cf cv cg ct) (Q 4 cc cf cv cg ct)
      (Q 0 (upd cc i (nI (c + 1))) (upd cf (20 * i + c) (nI f)) (upd cv (20 * i + c) a) (upd cg (20 * i + c) b) (upd ct (20 * i + c) t))) :
    zp_Mo_change (nI i) (nI f) a b r th t (nI ni) fi ia cc cf cv cg ct (nI nu) ui Q := by
  have hr := zi_rng hi (by omega : ni < 2147483648)
  have hf5 : (0 : Int32).toInt ≤ (nI f).toInt ∧ (nI f).toInt ≤ (5 : Int32).toInt := by
    rw [zi_n (by omega)]
    have : (5 : Int32).toInt = 5 := by decide
    rw [this, zi_0]; omega
  have n3 : nI f = 3 ↔ f = 3 := ⟨fun z => zi_nn (by omega) (by omega) z, fun z => by rw [z]; rfl⟩
  have n4 : nI f = 4 ↔ f = 4 := ⟨fun z => zi_nn (by omega) (by omega) z, fun z => by rw [z]; rfl⟩
  have ei : (nI i).toNatClampNeg = i := zi_c (by omega)
  have e20 : (20 : Int32) ≤ nI c ↔ 20 ≤ c := zi_ge (k := 20) rfl (by omega)
  have L178 : ∀ m g s : Int32, (m = 0 → ¬ (2 < f ∨ (∀ j, j < nu → ui j ≠ nI i) ∨ (ia i ≠ 0 ∧ ia i = r))) → (¬ m = 0 → (2 < f ∨ (∀ j, j < nu → ui j ≠ nI i) ∨ (ia i ≠ 0 ∧ ia i = r))) →
      (g = 0 → ¬ (zv_ok f a.toInt t.toInt ∧ 0 ≤ b.toInt ∧ b.toInt ≤ 9999)) → (¬ g = 0 → (zv_ok f a.toInt t.toInt ∧ 0 ≤ b.toInt ∧ b.toInt ≤ 9999)) →
      (¬ g = 0 → s = 0 → ¬ (((f = 3 → a.toInt ≤ (zf_on fi cf cv cg cc i 4 b).toInt) ∧ (f = 4 → (zf_on fi cf cv cg cc i 3 b).toInt ≤ a.toInt)) ∧ c + 1 ≤ 20)) →
      (¬ g = 0 → ¬ s = 0 → (((f = 3 → a.toInt ≤ (zf_on fi cf cv cg cc i 4 b).toInt) ∧ (f = 4 → (zf_on fi cf cv cg cc i 3 b).toInt ≤ a.toInt)) ∧ c + 1 ≤ 20)) →
      zp_Mo_change_178 (nI i) (nI f) a b t Q 1 m g s th cc cf cv cg ct := fun m g s m0 m1 g0 g1 s0 s1 =>
    zm_goes (fun e => z10 e) (fun _ e => zh0 (k.1 (m0 e))) (fun _ d e => zh0 (k.2.1 (m1 d) (g0 e))) (fun _ d h e => zh0 (k.2.2.1 (m1 d) (g1 h) (s0 h e))) (fun _ d h e => zh1 (zm_tells (by omega) hc (by have := (s1 h e).2; omega) (k.2.2.2 (m1 d) (g1 h) (s1 h e))))
  have L96 : ∀ m g : Int32, (m = 0 → ¬ (2 < f ∨ (∀ j, j < nu → ui j ≠ nI i) ∨ (ia i ≠ 0 ∧ ia i = r))) → (¬ m = 0 → (2 < f ∨ (∀ j, j < nu → ui j ≠ nI i) ∨ (ia i ≠ 0 ∧ ia i = r))) →
      (g = 0 → ¬ (zv_ok f a.toInt t.toInt ∧ 0 ≤ b.toInt ∧ b.toInt ≤ 9999)) → (¬ g = 0 → (zv_ok f a.toInt t.toInt ∧ 0 ≤ b.toInt ∧ b.toInt ≤ 9999)) →
      zp_Mo_change_96 (nI i) (nI f) a b t fi Q 1 m g th cc cf cv cg ct := by
    intro m g m0 m1 g0 g1
    have lo : c + 1 ≤ 20 → ∀ lo' mo' : Int32, ((f = 3 → a.toInt ≤ (zf_on fi cf cv cg cc i 4 b).toInt) ∧ (f = 4 → (zf_on fi cf cv cg cc i 3 b).toInt ≤ a.toInt) ↔ lo'.toInt ≤ mo'.toInt) → zp_Mo_change_170 (nI i) (nI f) a b t Q 1 m g lo' mo' th cc cf cv cg ct := by
      intro hcc lo' mo' hiff
      refine ⟨fun z => L178 m g 0 m0 m1 g0 g1 (fun _ _ q => ?_) (fun _ q => absurd rfl q), fun z => L178 m g 1 m0 m1 g0 g1 (fun _ q => z10 q) (fun _ _ => ⟨hiff.mpr ?_, hcc⟩)⟩
      · rw [zi_lt] at z
        exact absurd (hiff.mp q.1) (Int.not_le.mpr z)
      · rw [zi_lt] at z
        exact Int.not_lt.mp z
    have full : 20 ≤ c → zp_Mo_change_178 (nI i) (nI f) a b t Q 1 m g 0 th cc cf cv cg ct := fun hcc => L178 m g 0 m0 m1 g0 g1 (fun _ _ q => by have := q.2; omega) (fun _ q => absurd rfl q)
    have none : g = 0 → zp_Mo_change_178 (nI i) (nI f) a b t Q 1 m g 0 th cc cf cv cg ct := fun z => L178 m g 0 m0 m1 g0 g1 (fun q => absurd z q) (fun q => absurd z q)
    refine ⟨fun z3 => ⟨fun z => none z, fun _ => ⟨zi_in (by omega) (by omega), ?_⟩⟩, fun z3 => ⟨fun z4 => ⟨fun z => none z, fun _ => ⟨zi_in (by omega) (by omega), ?_⟩⟩, fun z4 => ⟨fun z => none z, fun _ => ⟨zi_in (by omega) (by omega), ?_⟩⟩⟩⟩
    · rw [ei, hc, e20]
      refine ⟨full, fun w => zg0 ⟨fun q => absurd z3 q, fun _ => ⟨fun z4 => zm_on (f := 4) hC (by omega) (by omega) (lo (by omega) _ _ ?_), fun z4 => ?_⟩⟩⟩
      · rw [n3] at z3; rw [n4] at z4
        exact ⟨fun q => q.1 z3, fun q => ⟨fun _ => q, fun w => absurd w z4⟩⟩
      · rw [n3] at z3; rw [n4] at z4; omega
    · rw [ei, hc, e20]
      refine ⟨full, fun w => zg0 ⟨fun _ => zm_on (f := 3) hC (by omega) (by omega) ⟨fun q => absurd z4 q, fun _ => lo (by omega) _ _ ?_⟩, fun q => absurd q z3⟩⟩
      rw [n3] at z3; rw [n4] at z4
      exact ⟨fun q => q.2 z4, fun q => ⟨fun w => absurd w z3, fun _ => q⟩⟩
    · rw [ei, hc, e20]
      refine ⟨full, fun w => zg1 (L178 m g 1 m0 m1 g0 g1 (fun _ q => z10 q) (fun _ _ => ⟨⟨fun q => ?_, fun q => ?_⟩, by omega⟩))⟩
      · rw [n3] at z3; exact absurd q z3
      · rw [n4] at z4; exact absurd q z4
  have L67 : ∀ m : Int32, (m = 0 → ¬ (2 < f ∨ (∀ j, j < nu → ui j ≠ nI i) ∨ (ia i ≠ 0 ∧ ia i = r))) → (¬ m = 0 → (2 < f ∨ (∀ j, j < nu → ui j ≠ nI i) ∨ (ia i ≠ 0 ∧ ia i = r))) →
      zp_Mo_change_67 (nI i) (nI f) a b t fi Q 1 m th cc cf cv cg ct := fun m m0 m1 =>
    zh1 (zm_isValue hf (fun y => zh1 (zm_isDay (zb_br (fun z => L96 m 0 m0 m1 (fun _ q => z q.2) (fun q => absurd rfl q)) (fun z => L96 m 1 m0 m1 (fun q => z10 q) (fun _ => ⟨y, z⟩))))) (fun y => zh0 (L96 m 0 m0 m1 (fun _ q => y q.1) (fun q => absurd rfl q))))
  have e2 : (2 : Int32) < nI f ↔ 2 < f := by
    have : (2 : Int32).toInt = 2 := by decide
    rw [zi_lt, this, zi_n (by omega)]; omega
  have L22 : zp_Mo_change_22 (nI i) (nI f) a b r t fi ia (nI nu) ui Q 1 th cc cf cv cg ct := by
    refine zh1 ⟨fun z => L67 1 (fun q => z10 q) (fun _ => Or.inl (e2.mp z)), fun z => zm_isMade hnu (fun y => zh1 ⟨zi_in (by omega) (by omega), ?_⟩) (fun y => zh0 (L67 1 (fun q => z10 q) (fun _ => Or.inr (Or.inl y))))⟩
    rw [ei]
    have no2 : ¬ (ia i ≠ 0 ∧ ia i = r) → ¬ (2 < f ∨ (∀ j, j < nu → ui j ≠ nI i) ∨ (ia i ≠ 0 ∧ ia i = r)) := fun w q => by
      rcases q with q | q | q
      · exact z (e2.mpr q)
      · exact y q
      · exact w q
    refine ⟨fun w => L67 0 (fun _ => no2 (fun q => ?_)) (fun q => absurd rfl q), fun w => ⟨zi_in (by omega) (by omega), fun v => L67 0 (fun _ => no2 (fun q => v q.2)) (fun q => absurd rfl q), fun v => L67 1 (fun q => z10 q) (fun _ => Or.inr (Or.inr ⟨fun q => ?_, v⟩))⟩⟩
    · rw [zi_le, zi_0] at w
      exact q.1 (zi_eq.mpr (by rw [zi_0]; omega))
    · exact w (by rw [q]; exact Int32.le_refl _)
  exact zm_isItem (by omega) (zb_br (fun z => absurd hr z) (fun _ => zm_in (zb_br (fun z => absurd hf5 z) (fun _ => L22))))
theorem zm_field_x {Q : Int32 → Int32 → Prop} {fi cf cv cg cc : Nat → Int32} {p q d th : Int32} {ni : Nat} (hni : ni ≤ 60) (h : ¬ ((0 ≤ p.toInt ∧ p.toInt < ni) ∧ 0 ≤ q.toInt ∧ q.toInt ≤ 5)) (x : Q 0 1) : zp_Mo_field p q d th (nI ni) fi cc cf cv cg Q := by
  have L : zp_Mo_field_23 p q d fi cc cf cv cg Q 0 th := zm_isDay (zm_goes2 (fun _ => zg0 x) (fun e => absurd rfl e) (fun e => absurd rfl e))
  exact zm_isItem (by omega) (zb_br (fun _ => L) (fun y => zm_in (zb_br (fun _ => L) (fun z => absurd ⟨y, z⟩ h))))
theorem zm_field {Q : Int32 → Int32 → Prop} {fi cf cv cg cc : Nat → Int32} {d th : Int32} {i f ni : Nat} (hni : ni ≤ 60) (hi : i < ni) (hf : f < 6) (hC : zj_c cf cv cg cc ni)
    (k : zo3 True (0 ≤ d.toInt ∧ d.toInt ≤ 9999) True False (Q 0 2) False (Q (zf_on fi cf cv cg cc i f d) 0)) : zp_Mo_field (nI i) (nI f) d th (nI ni) fi cc cf cv cg Q := by
  have hr := zi_rng hi (by omega : ni < 2147483648)
  have hf5 : (0 : Int32).toInt ≤ (nI f).toInt ∧ (nI f).toInt ≤ (5 : Int32).toInt := by
    rw [zi_n (by omega)]
    have : (5 : Int32).toInt = 5 := by decide
    rw [this, zi_0]; omega
  have L : zp_Mo_field_23 (nI i) (nI f) d fi cc cf cv cg Q 1 th := zm_isDay (zm_goes2 (fun e => z10 e) (fun _ e => zg0 (k.2.1 trivial (zb_0 e))) (fun _ e => zg1 (zm_on hC (by omega) hf (k.2.2.2 trivial (zb_1 e) trivial))))
  exact zm_isItem (by omega) (zb_br (fun z => absurd hr z) (fun _ => zm_in (zb_br (fun z => absurd hf5 z) (fun _ => L))))
theorem zm_history_x {Q : Int32 → Int32 → Prop} {cf cv cg ct cc : Nat → Int32} {p j w th : Int32} {ni : Nat} (hni : ni ≤ 60) (h : ¬ (0 ≤ p.toInt ∧ p.toInt < ni)) (x : Q 0 1) : zp_Mo_history p j w th (nI ni) cc cf cv cg ct Q :=
  zm_isItem (by omega) (zb_br (fun _ => zm_goes1 (fun _ => zg0 x) (fun e => absurd rfl e)) (fun y => absurd y h))
theorem zm_history_y {Q : Int32 → Int32 → Prop} {cf cv cg ct cc : Nat → Int32} {j w th : Int32} {i ni c : Nat} (hni : ni ≤ 60) (hi : i < ni) (hc : cc i = nI c) (hc20 : c ≤ 20) (h : ¬ ((0 ≤ j.toInt ∧ j.toInt < c) ∧ 0 ≤ w.toInt ∧ w.toInt ≤ 3)) (x : Q 0 1) : zp_Mo_history (nI i) j w th (nI ni) cc cf cv cg ct Q := by
  have hr := zi_rng hi (by omega : ni < 2147483648)
  have L : zp_Mo_history_51 (nI i) j w cf cv cg ct Q 0 th := zm_goes1 (fun _ => zg0 x) (fun e => absurd rfl e)
  refine zm_isItem (by omega) (zb_br (fun z => absurd hr z) (fun _ => zm_isItem (by omega) (zb_br (fun z => absurd hr z) (fun _ => ⟨zi_in (by omega) (by omega), ?_⟩))))
  rw [zi_c (by omega), hc]
  refine zm_in (zb_br (fun _ => L) (fun y => zm_in (zb_br (fun _ => L) (fun z => absurd ⟨?_, z⟩ h))))
  rw [zi_sub (by rw [zi_n (by omega), zi_1]; omega) (by rw [zi_n (by omega), zi_1]; omega), zi_n (by omega), zi_1, zi_0] at y
  omega
theorem zm_history {Q : Int32 → Int32 → Prop} {cf cv cg ct cc : Nat → Int32} {w th : Int32} {i j ni c : Nat} (hni : ni ≤ 60) (hi : i < ni) (hc : cc i = nI c) (hc20 : c ≤ 20) (hj : j < c) (hw : 0 ≤ w.toInt ∧ w.toInt ≤ 3)
    (k : Q (if w = 0 then cf (20 * i + j) else if w = 1 then cv (20 * i + j) else if w = 2 then cg (20 * i + j) else ct (20 * i + j)) 0) : zp_Mo_history (nI i) (nI j) w th (nI ni) cc cf cv cg ct Q := by
  have hr := zi_rng hi (by omega : ni < 2147483648)
  have e : (20 * nI i + nI j : Int32) = nI (20 * i + j) := by
    rw [show (20 : Int32) = nI 20 from by decide, zi_nm, zi_na]
  have hin := zi_in (n := 20 * i + j) (N := 1200) (by omega) (by omega)
  have L : zp_Mo_history_51 (nI i) (nI j) w cf cv cg ct Q 1 th := by
    refine zm_goes1 (fun e => z10 e) (fun _ => zg1 (fun y hy => ?_))
    rw [e] at hy
    subst hy
    rw [zi_c (by omega)]
    refine ⟨fun z1 => ⟨fun z2 => ⟨fun z3 => ⟨hin, ?_⟩, fun z3 => ⟨hin, ?_⟩⟩, fun z2 => ⟨hin, ?_⟩⟩, fun z1 => ⟨hin, ?_⟩⟩
    · rwa [if_neg z1, if_neg z2, if_neg z3] at k
    · rwa [if_neg z1, if_neg z2, if_pos z3] at k
    · rwa [if_neg z1, if_pos z2] at k
    · rwa [if_pos z1] at k
  refine zm_isItem (by omega) (zb_br (fun z => absurd hr z) (fun _ => zm_isItem (by omega) (zb_br (fun z => absurd hr z) (fun _ => ⟨zi_in (by omega) (by omega), ?_⟩))))
  rw [zi_c (by omega), hc]
  refine zm_in (zb_br (fun z => absurd ?_ z) (fun y => zm_in (zb_br (fun z => absurd hw z) (fun _ => L))))
  rw [zi_sub (by rw [zi_n (by omega), zi_1]; omega) (by rw [zi_n (by omega), zi_1]; omega), zi_n (by omega), zi_n (by omega), zi_1, zi_0]
  omega
theorem zm_split_x {Q : Int32 → Int32 → Int32 → (Nat → Int32) → (Nat → Int32) → (Nat → Int32) → (Nat → Int32) → (Nat → Int32) → (Nat → Int32) → (Nat → Int32) → Prop} {io fi cf cv cg ct cc ui : Nat → Int32} {p q t th nu : Int32} {ni : Nat} (hni : ni ≤ 60) (h : ¬ (0 ≤ p.toInt ∧ p.toInt < ni)) (x : Q 0 1 (nI ni) io fi cc cf cv cg ct) :
    zp_Mo_split p q th t (nI ni) io fi cc cf cv cg ct nu ui Q := by
  refine zm_isItem (by omega) (zb_br (fun z => ?_) (fun y => absurd y h))
  rw [zb_f z]
  exact zh0 (zh0 (zm_goes (fun _ => zg0 x) (fun e => absurd rfl e) (fun e => absurd rfl e) (fun e => absurd rfl e) (fun e => absurd rfl e)))
theorem zm_split {Q : Int32 → Int32 → Int32 → (Nat → Int32) → (Nat → Int32) → (Nat → Int32) → (Nat → Int32) → (Nat → Int32) → (Nat → Int32) → (Nat → Int32) → Prop} {io fi cf cv cg ct cc ui : Nat → Int32} {q t th : Int32} {i ni nu c : Nat} (hni : ni ≤ 60) (hnu : nu ≤ 200) (hi : i < ni) (hC : zj_c cf cv cg cc ni) (hc : cc i = nI c) (hc20 : c ≤ 20)
    (k : zo3 (∀ j, j < nu → ui j ≠ nI i) (1 ≤ q.toInt ∧ q.toInt ≤ (zf_on fi cf cv cg cc i 4 t).toInt) (ni < 60 ∧ c + 2 ≤ 20) (Q 0 2 (nI ni) io fi cc cf cv cg ct) (Q 0 3 (nI ni) io fi cc cf cv cg ct) (Q 0 4 (nI ni) io fi cc cf cv cg ct)
      (∀ y : Int32, y = (if q < zf_on fi cf cv cg cc i 3 t then q else zf_on fi cf cv cg cc i 3 t) → Q (nI ni) 0 (nI (ni + 1)) (upd io ni (io i)) (zm_six fi ni (zf_on fi cf cv cg cc i 0 t) (zf_on fi cf cv cg cc i 1 t) (zf_on fi cf cv cg cc i 2 t) y q (zf_on fi cf cv cg cc i 5 t))
        (upd (upd cc i (nI (c + 1))) i (nI (c + 2))) (upd (upd cf (20 * i + c) 3) (20 * i + (c + 1)) 4) (upd (upd cv (20 * i + c) (zf_on fi cf cv cg cc i 3 t - y)) (20 * i + (c + 1)) (zf_on fi cf cv cg cc i 4 t - q)) (upd (upd cg (20 * i + c) t) (20 * i + (c + 1)) t) (upd (upd ct (20 * i + c) t) (20 * i + (c + 1)) t))) :
    zp_Mo_split (nI i) q th t (nI ni) io fi cc cf cv cg ct (nI nu) ui Q := by
  have hr := zi_rng hi (by omega : ni < 2147483648)
  have ei : (nI i).toNatClampNeg = i := zi_c (by omega)
  have e18 : (18 : Int32) < nI c ↔ ¬ c + 2 ≤ 20 := by
    have : (18 : Int32).toInt = 18 := by decide
    rw [zi_lt, this, zi_n (by omega)]; omega
  have e60 : (60 : Int32) ≤ nI ni ↔ 60 ≤ ni := zi_ge (k := 60) rfl (by omega)
  have L113 : (∀ j, j < nu → ui j ≠ nI i) → (1 ≤ q.toInt ∧ q.toInt ≤ (zf_on fi cf cv cg cc i 4 t).toInt) → (ni < 60 ∧ c + 2 ≤ 20) → ∀ y : Int32, y = (if q < zf_on fi cf cv cg cc i 3 t then q else zf_on fi cf cv cg cc i 3 t) →
      zp_Mo_split_113 (nI i) q t Q (zf_on fi cf cv cg cc i 3 t) y 0 (nI ni) io fi cc cf cv cg ct := by
    intro a1 a2 a3 y hy
    have kk := k.2.2.2 a1 a2 a3 y hy
    refine ⟨zi_in (by omega) (by omega), zm_on (f := 0) hC (by omega) (by omega) (zm_on (f := 1) hC (by omega) (by omega) (zm_on (f := 2) hC (by omega) (by omega) (zm_on (f := 5) hC (by omega) (by omega) (zm_makes a3.1 (zm_on (f := 4) hC (by omega) (by omega) ?_)))))⟩
    rw [ei]
    have e4 : zf_on (zm_six fi ni (zf_on fi cf cv cg cc i 0 t) (zf_on fi cf cv cg cc i 1 t) (zf_on fi cf cv cg cc i 2 t) y q (zf_on fi cf cv cg cc i 5 t)) cf cv cg cc i 4 t = zf_on fi cf cv cg cc i 4 t := zf_on_fi (by
      unfold zm_six
      rw [up_n _ _ (by omega), up_n _ _ (by omega), up_n _ _ (by omega), up_n _ _ (by omega), up_n _ _ (by omega), up_n _ _ (by omega)])
    rw [e4]
    exact zm_tells (by omega) hc (by omega) (zm_tells (by omega) (up_s _ _ _) (by omega) kk)
  have L81 : ∀ m g s : Int32, (m = 0 → ¬ (∀ j, j < nu → ui j ≠ nI i)) → (¬ m = 0 → (∀ j, j < nu → ui j ≠ nI i)) → (g = 0 → ¬ (1 ≤ q.toInt ∧ q.toInt ≤ (zf_on fi cf cv cg cc i 4 t).toInt)) → (¬ g = 0 → (1 ≤ q.toInt ∧ q.toInt ≤ (zf_on fi cf cv cg cc i 4 t).toInt)) →
      (s = 0 → ¬ (ni < 60 ∧ c + 2 ≤ 20)) → (¬ s = 0 → (ni < 60 ∧ c + 2 ≤ 20)) → zp_Mo_split_81 (nI i) q t Q 1 m g s th (nI ni) io fi cc cf cv cg ct := by
    intro m g s m0 m1 g0 g1 s0 s1
    refine zm_goes (fun e => z10 e) (fun _ e => zg0 (k.1 (m0 e))) (fun _ d e => zg0 (k.2.1 (m1 d) (g0 e))) (fun _ d h e => zg0 (k.2.2.1 (m1 d) (g1 h) (s0 e))) (fun _ d h e => zg1 (zm_on (f := 3) hC (by omega) (by omega) ⟨fun z => L113 (m1 d) (g1 h) (s1 e) q ?_, fun z => L113 (m1 d) (g1 h) (s1 e) _ ?_⟩))
    · by_cases hlt : q < zf_on fi cf cv cg cc i 3 t
      · rw [if_pos hlt]
      · rw [if_neg hlt]
        rw [zi_le] at z; rw [zi_lt] at hlt
        exact zi_eq.mpr (by omega)
    · rw [if_neg (fun hlt => z ?_)]
      rw [zi_lt] at hlt; rw [zi_le]; omega
  have L52 : ∀ m g : Int32, (m = 0 → ¬ (∀ j, j < nu → ui j ≠ nI i)) → (¬ m = 0 → (∀ j, j < nu → ui j ≠ nI i)) → (g = 0 → ¬ (1 ≤ q.toInt ∧ q.toInt ≤ (zf_on fi cf cv cg cc i 4 t).toInt)) → (¬ g = 0 → (1 ≤ q.toInt ∧ q.toInt ≤ (zf_on fi cf cv cg cc i 4 t).toInt)) →
      zp_Mo_split_52 (nI i) q t Q 1 1 m g th (nI ni) io fi cc cf cv cg ct := by
    intro m g m0 m1 g0 g1
    refine zh1 ⟨fun z => L81 m g 0 m0 m1 g0 g1 (fun _ w => ?_) (fun w => absurd rfl w), fun z => ⟨zi_in (by omega) (by omega), ?_⟩⟩
    · rw [e60] at z; omega
    · rw [ei, hc, e18]
      rw [e60] at z
      exact ⟨fun y => L81 m g 0 m0 m1 g0 g1 (fun _ w => y w.2) (fun w => absurd rfl w), fun y => L81 m g 1 m0 m1 g0 g1 (fun w => z10 w) (fun _ => ⟨by omega, Decidable.of_not_not y⟩)⟩
  have L25 : ∀ m : Int32, (m = 0 → ¬ (∀ j, j < nu → ui j ≠ nI i)) → (¬ m = 0 → (∀ j, j < nu → ui j ≠ nI i)) → zp_Mo_split_25 (nI i) q t Q 1 1 m th (nI ni) io fi cc cf cv cg ct := fun m m0 m1 =>
    zh1 (zm_on (f := 4) hC (by omega) (by omega) (zm_in (zb_br (fun z => L52 m 0 m0 m1 (fun _ => z) (fun w => absurd rfl w)) (fun z => L52 m 1 m0 m1 (fun w => z10 w) (fun _ => z)))))
  refine zm_isItem (by omega) (zb_br (fun z => absurd hr z) (fun y => ?_))
  rw [zb_t y]
  exact zm_isMade hnu (fun z => zg1 (L25 0 (fun _ => z) (fun w => absurd rfl w))) (fun z => zg0 (L25 1 (fun w => z10 w) (fun _ => z)))
