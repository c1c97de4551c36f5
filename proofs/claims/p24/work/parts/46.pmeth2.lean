section ZO
variable {X : String → Prop}
/-- made -/
theorem zr_made_x {P : Int32 → (Nat → Int32) → (Nat → Int32) → (Nat → Int32) → (Nat → Int32) → Int32 → Prop} {ui ud uk ut : Nat → Int32} {p q un t : Int32} {ni : Nat} (hni : ni ≤ 60) (h : ¬ (0 ≤ p.toInt ∧ p.toInt < ni)) (x : X zE_I) : zp_Or_made p q (nI ni) ui ud uk ut un t P X :=
  zr_itmHas (by omega) (zr_needIndex (fun _ => x) (fun c1 => absurd c1 h))
theorem zr_made {P : Int32 → (Nat → Int32) → (Nat → Int32) → (Nat → Int32) → (Nat → Int32) → Int32 → Prop} {ui ud uk ut : Nat → Int32} {q t : Int32} {i ni nu : Nat} (hni : ni ≤ 60) (hi : i < ni) (hnu : nu ≤ 200)
    (k : zo3 True (1 ≤ q.toInt ∧ q.toInt ≤ 1000000) ((ut i).toInt + q.toInt ≤ 1000000000 ∧ nu < 200) (X zE_T) (X zE_R) (X zE_M)
      (P (ut i + q) (upd ui nu (nI i)) (upd ud nu t) (upd uk nu q) (upd ut i (ut i + q)) (nI (nu + 1)))) : zp_Or_made (nI i) q (nI ni) ui ud uk ut (nI nu) t P X := by
  have eb : (1000000000 : Int32).toInt = 1000000000 := by decide
  refine zr_itmHas (by omega) (zr_needIndex (fun z => absurd (zi_rng hi (by omega)) z) (fun c1 => zr_isWithin (zr_needRange (fun z => k.2.1 trivial z) (fun z => ⟨zi_in (by omega) (by omega), ?_⟩))))
  have z' : 1 ≤ q.toInt ∧ q.toInt ≤ 1000000 := z
  rw [zi_c (by omega)]
  have es : (1000000000 - q : Int32).toInt = 1000000000 - q.toInt := by
    rw [zi_sub (by rw [eb]; omega) (by rw [eb]; omega), eb]
  refine ⟨fun y => zr_m0 (k.2.2.1 trivial z (fun w => ?_)), fun y => ⟨fun x => zr_m0 (k.2.2.1 trivial z (fun w => ?_)), fun x => zr_m1 ?_⟩⟩
  · rw [zi_lt, es] at y; omega
  · rw [zi_ge (k := 200) rfl (by omega)] at x; omega
  · rw [zi_lt, es] at y
    rw [zi_ge (k := 200) rfl (by omega)] at x
    have kk := k.2.2.2 trivial z ⟨by omega, by omega⟩
    unfold zp_Out_add
    rw [zi_c (by omega), zi_c (by omega), zi_n1]
    have hin := zi_in (n := nu) (N := 200) (by omega) (by omega)
    have hin2 := zi_in (n := i) (N := 60) (by omega) (by omega)
    refine ⟨hin, hin, hin, hin2, hin2, hin2, ?_⟩
    show P (upd ut i (ut i + q) i) _ _ _ _ _
    rw [up_s]
    exact kk
/-- state -/
theorem zr_state_x {P : Int32 → Prop} {fi cf cv cg cc ui ud uk ut : Nat → Int32} {p d un : Int32} {ni : Nat} (hni : ni ≤ 60) (h : ¬ (0 ≤ p.toInt ∧ p.toInt < ni)) (x : X zE_I) : zp_Or_state p d fi (nI ni) cf cv cg cc ui ud uk ut un P X :=
  zr_itmHas (by omega) (zr_needIndex (fun _ => x) (fun c1 => absurd c1 h))
theorem zr_state {P : Int32 → Prop} {fi cf cv cg cc ui ud uk ut : Nat → Int32} {d un : Int32} {i ni : Nat} (hni : ni ≤ 60) (hi : i < ni)
    (k : zo3 True (0 ≤ d.toInt ∧ d.toInt ≤ 9999) True (X zE_T) (X zE_R) (X zE_M) (zp_Or_stateOn (nI i) d fi cf cv cg cc ui ud uk ut un P)) : zp_Or_state (nI i) d fi (nI ni) cf cv cg cc ui ud uk ut un P X :=
  zr_itmHas (by omega) (zr_needIndex (fun z => absurd (zi_rng hi (by omega)) z) (fun _ => zr_isDay (zr_needRange (fun z => k.2.1 trivial z) (fun z => k.2.2.2 trivial z trivial))))
/-- rest -/
theorem zr_rest_x {P : Int32 → Prop} {fi cf cv cg cc ut : Nat → Int32} {p t : Int32} {ni : Nat} (hni : ni ≤ 60) (h : ¬ (0 ≤ p.toInt ∧ p.toInt < ni)) (x : X zE_I) : zp_Or_rest p fi (nI ni) cf cv cg cc ut t P X :=
  zr_itmHas (by omega) (zr_needIndex (fun _ => x) (fun c1 => absurd c1 h))
theorem zr_rest {P : Int32 → Prop} {fi cf cv cg cc ut : Nat → Int32} {t : Int32} {i ni c : Nat} (hni : ni ≤ 60) (hi : i < ni) (hc : cc i = nI c) (hc20 : c ≤ 20)
    (k : P (if 0 < (zf_on fi cf cv cg cc i 3 t - ut i) then (zf_on fi cf cv cg cc i 3 t - ut i) else 0)) : zp_Or_rest (nI i) fi (nI ni) cf cv cg cc ut t P X := by
  refine zr_itmHas (by omega) (zr_needIndex (fun z => absurd (zi_rng hi (by omega)) z) (fun _ => zr_valueOn (f := 3) (by omega) (by omega) hc hc20 ⟨zi_in (by omega) (by omega), ?_⟩))
  rw [zi_c (by omega)]
  exact k
/-- costs -/
theorem zr_costs {P : Int32 → Int32 → Int32 → Prop} {a b c rb rt rw' : Int32}
    (k : zo3 True ((0 ≤ a.toInt ∧ a.toInt ≤ 100000) ∧ (0 ≤ b.toInt ∧ b.toInt ≤ 100000) ∧ (0 ≤ c.toInt ∧ c.toInt ≤ 100000)) True (X zE_T) (X zE_R) (X zE_M) (P a b c)) : zp_Or_costs a b c rb rt rw' P X :=
  zr_isRate (zb_br (fun z => zr_r0 (k.2.1 trivial (fun q => z q.1))) (fun y1 => zr_isRate (zb_br (fun z => zr_r0 (k.2.1 trivial (fun q => z q.2.1))) (fun y2 => zr_isRate (zb_br (fun z => zr_r0 (k.2.1 trivial (fun q => z q.2.2))) (fun y3 => zr_r1 (k.2.2.2 trivial ⟨y1, y2, y3⟩ trivial)))))))
/-- quote -/
def zq_c (m w rb rt rw' : Int32) : Int64 := (rb.toInt64 + (((m.toInt64 + 999) / 1000) * rt.toInt64)) + (w.toInt64 * rw'.toInt64)
theorem zr_quote_x {P : Int32 → (Nat → Int32) → (Nat → Int32) → (Nat → Int64) → Int32 → Prop} {fi cf cv cg cc qi qu : Nat → Int32} {qc : Nat → Int64} {p q rb rt rw' qn t : Int32} {ni : Nat} (hni : ni ≤ 60) (h : ¬ (0 ≤ p.toInt ∧ p.toInt < ni)) (x : X zE_I) : zp_Or_quote p q fi (nI ni) cf cv cg cc rb rt rw' qi qu qc qn t P X :=
  zr_itmHas (by omega) (zr_needIndex (fun _ => x) (fun c1 => absurd c1 h))
theorem zr_quote {P : Int32 → (Nat → Int32) → (Nat → Int32) → (Nat → Int64) → Int32 → Prop} {fi cf cv cg cc qi qu : Nat → Int32} {qc : Nat → Int64} {q rb rt rw' t : Int32} {i ni nq c : Nat} (hni : ni ≤ 60) (hi : i < ni) (hc : cc i = nI c) (hc20 : c ≤ 20) (hnq : nq ≤ 60)
    (k : zo3 True (t.toInt ≤ q.toInt ∧ q.toInt ≤ 9999) (nq < 60) (X zE_T) (X zE_R) (X zE_M)
      (P (nI nq) (upd qi nq (nI i)) (upd qu nq q) (vp_updL qc nq (zq_c (zf_on fi cf cv cg cc i 4 t) (zf_on fi cf cv cg cc i 1 t) rb rt rw')) (nI (nq + 1)))) : zp_Or_quote (nI i) q fi (nI ni) cf cv cg cc rb rt rw' qi qu qc (nI nq) t P X := by
  refine zr_itmHas (by omega) (zr_needIndex (fun z => absurd (zi_rng hi (by omega)) z) (fun _ => zr_isDayToCome (zr_needRange (fun z => k.2.1 trivial z) (fun z => ⟨fun y => zr_m0 (k.2.2.1 trivial z ?_), fun y => zr_m1 (zr_valueOn (f := 4) (by omega) (by omega) hc hc20 (zr_valueOn (f := 1) (by omega) (by omega) hc hc20 ⟨by decide, fun y1 h1 => ?_⟩))⟩))))
  · rw [zi_ge (k := 60) rfl (by omega)] at y; omega
  · rw [zi_ge (k := 60) rfl (by omega)] at y
    have kk := k.2.2.2 trivial z (by omega)
    subst h1
    unfold zp_Quo_add
    rw [zi_c (by omega), zi_n1]
    have hin := zi_in (n := nq) (N := 60) (by omega) (by omega)
    exact ⟨hin, hin, hin, kk⟩
/-- quoteAt -/
theorem zr_quoteAt_x {P : Int32 → Prop} {qi qu qa : Nat → Int32} {p w : Int32} {nq : Nat} (hnq : nq ≤ 60) (h : ¬ ((0 ≤ p.toInt ∧ p.toInt < nq) ∧ 0 ≤ w.toInt ∧ w.toInt ≤ 2)) (x : X zE_I) : zp_Or_quoteAt p w qi qu qa (nI nq) P X :=
  zr_quoHas (by omega) (zb_br (fun _ => zr_i0 x) (fun c1 => zr_isWithin (zb_br (fun _ => zr_i0 x) (fun c2 => absurd ⟨c1, c2⟩ h))))
theorem zr_quoteAt {P : Int32 → Prop} {qi qu qa : Nat → Int32} {w : Int32} {j nq : Nat} (hnq : nq ≤ 60) (hj : j < nq) (hw : 0 ≤ w.toInt ∧ w.toInt ≤ 2)
    (k : P (if w = 0 then qi j else if w = 1 then qu j else if qa j = 0 then 0 else 1)) : zp_Or_quoteAt (nI j) w qi qu qa (nI nq) P X := by
  refine zr_quoHas (by omega) (zb_br (fun z => absurd (zi_rng hj (by omega)) z) (fun _ => zr_isWithin (zb_br (fun z => absurd hw z) (fun _ => zr_i1 ?_))))
  have hin := zi_in (n := j) (N := 60) (by omega) (by omega)
  unfold zp_Quo_look
  rw [zi_c (by omega)]
  refine ⟨fun z => ⟨hin, ?_⟩, fun z => ⟨hin, ?_⟩, fun z1 z2 => ⟨hin, fun y => ?_, fun y => ?_⟩⟩
  · rwa [if_pos z] at k
  · subst z; exact k
  · rwa [if_neg z1, if_neg z2, if_pos y] at k
  · rwa [if_neg z1, if_neg z2, if_neg y] at k
/-- price -/
theorem zr_price_x {P : Int64 → Prop} {qc : Nat → Int64} {p : Int32} {nq : Nat} (hnq : nq ≤ 60) (h : ¬ (0 ≤ p.toInt ∧ p.toInt < nq)) (x : X zE_I) : zp_Or_price p qc (nI nq) P X :=
  zr_quoHas (by omega) (zr_needIndex (fun _ => x) (fun c1 => absurd c1 h))
theorem zr_price {P : Int64 → Prop} {qc : Nat → Int64} {j nq : Nat} (hnq : nq ≤ 60) (hj : j < nq) (k : P (qc j)) : zp_Or_price (nI j) qc (nI nq) P X := by
  refine zr_quoHas (by omega) (zr_needIndex (fun z => absurd (zi_rng hj (by omega)) z) (fun _ => ⟨zi_in (by omega) (by omega), ?_⟩))
  rw [zi_c (by omega)]
  exact k
/-- credit -/
theorem zr_credit_x {P : (Nat → Int32) → Prop} {al : Nat → Int32} {p v : Int32} (h : ¬ (0 ≤ p.toInt ∧ p.toInt ≤ 9)) (x : X zE_I) : zp_Or_credit p v al P X :=
  zr_isWithin (zr_needIndex (fun _ => x) (fun c1 => absurd c1 h))
theorem zr_credit {P : (Nat → Int32) → Prop} {al : Nat → Int32} {v : Int32} {c : Nat} (hc : c < 10) (k : zo3 True (0 ≤ v.toInt ∧ v.toInt ≤ 2000000000) True (X zE_T) (X zE_R) (X zE_M) (P (upd al c v))) : zp_Or_credit (nI c) v al P X := by
  have hc9 : 0 ≤ (nI c).toInt ∧ (nI c).toInt ≤ 9 := by rw [zi_n (by omega)]; omega
  refine zr_isWithin (zr_needIndex (fun z => absurd hc9 z) (fun _ => zr_isWithin (zr_needRange (fun z => k.2.1 trivial z) (fun z => ⟨zi_in (by omega) (by omega), ?_⟩))))
  rw [zi_c (by omega)]
  exact k.2.2.2 trivial z trivial
/-- accept -/
theorem zr_accept_x {P : Int64 → (Nat → Int32) → (Nat → Int64) → Prop} {oc io qi qu qa al : Nat → Int32} {qc au : Nat → Int64} {p t : Int32} {nq : Nat} (hnq : nq ≤ 60) (h : ¬ (0 ≤ p.toInt ∧ p.toInt < nq)) (x : X zE_I) : zp_Or_accept p oc io qi qu qc qa (nI nq) al au t P X :=
  zr_quoHas (by omega) (zr_needIndex (fun _ => x) (fun c1 => absurd c1 h))
theorem zr_accept {P : Int64 → (Nat → Int32) → (Nat → Int64) → Prop} {oc io qi qu qa al : Nat → Int32} {qc au : Nat → Int64} {t : Int32} {j i o c nq : Nat} (hnq : nq ≤ 60) (hj : j < nq) (hi : i < 60) (ei : qi j = nI i) (ho : o < 30) (eo : io i = nI o) (hc : c < 10) (ec : oc o = nI c)
    (k : zo3 (qa j = 0 ∧ t.toInt ≤ (qu j).toInt) True ((au c + qc j).toInt ≤ (al c).toInt) (X zE_T) (X zE_R) (X zE_M) (P (au c + qc j) (upd qa j 1) (vp_updL au c (au c + qc j)))) : zp_Or_accept (nI j) oc io qi qu qc qa (nI nq) al au t P X := by
  have hin := zi_in (n := j) (N := 60) (by omega) (by omega)
  have hinc := zi_in (n := c) (N := 10) (by omega) (by omega)
  have main : qa j = 0 ∧ t.toInt ≤ (qu j).toInt → zp_Or_accept_44 (nI j) oc io qi qc al P X 1 qa au := by
    intro c2
    refine zr_t1 ⟨hin, ?_⟩
    rw [zi_c (by omega), ei]
    refine ⟨zi_in hi (by omega), ?_⟩
    rw [zi_c (by omega), eo]
    refine ⟨zi_in ho (by omega), ?_⟩
    rw [zi_c (by omega), ec]
    intro y1 h1
    subst h1
    refine ⟨hinc, hin, fun y2 h2 => ⟨hinc, ?_⟩⟩
    rw [zi_c (by omega)] at h2 ⊢
    subst h2
    refine ⟨fun z => zr_m0 (k.2.2.1 c2 trivial (fun w => ?_)), fun z => zr_m1 ⟨hin, hinc, ?_⟩⟩
    · rw [lg_cmp_gt, Int64.lt_iff_toInt_lt, Int32.toInt_toInt64] at z; omega
    · rw [lg_cmp_gt, Int64.lt_iff_toInt_lt, Int32.toInt_toInt64] at z
      rw [zi_c (by omega), zi_c (by omega)]
      exact k.2.2.2 c2 trivial (by omega)
  refine zr_quoHas (by omega) (zr_needIndex (fun z => absurd (zi_rng hj (by omega)) z) (fun _ => ⟨hin, ?_⟩))
  rw [zi_c (by omega)]
  refine ⟨fun z => zr_t0 (k.1 (fun q => z q.1)), fun z => ⟨hin, fun y => zr_t0 (k.1 (fun q => ?_)), fun y => main ⟨z, ?_⟩⟩⟩
  · rw [zi_lt] at y; omega
  · rw [zi_lt] at y; omega
/-- capacity -/
theorem zr_capacity {P : Int32 → Prop} {ka kd kk : Nat → Int32} {p cap : Int32} (hb : zk_ok ka kk)
    (k : zo3 True (0 ≤ p.toInt ∧ p.toInt ≤ 100000000) (∀ j, j < 60 → ka j ≠ 0 → zk_s ka kd kk (kd j) ≤ p.toInt) (X zE_T) (X zE_R) (X zE_M) (P p)) : zp_Or_capacity p ka kd kk cap P X := by
  refine zr_isWithin (zr_needRange (fun z => k.2.1 trivial z) (fun z => zr_fitsInto hb (fun y => zr_m1 (k.2.2.2 trivial z y)) (fun y => zr_m0 (k.2.2.1 trivial z (fun w => ?_)))))
  obtain ⟨j, h1, h2, h3⟩ := y
  exact absurd (w j h1 h2) (Int.not_le.mpr h3)
/-- reserve -/
theorem zr_reserve_x {P : Int32 → (Nat → Int32) → (Nat → Int32) → (Nat → Int32) → Prop} {fi cf cv cg cc ka kd kk : Nat → Int32} {p cap t : Int32} {ni : Nat} (hni : ni ≤ 60) (h : ¬ (0 ≤ p.toInt ∧ p.toInt < ni)) (x : X zE_I) : zp_Or_reserve p fi (nI ni) cf cv cg cc ka kd kk cap t P X :=
  zr_itmHas (by omega) (zr_needIndex (fun _ => x) (fun c1 => absurd c1 h))
theorem zr_reserve {P : Int32 → (Nat → Int32) → (Nat → Int32) → (Nat → Int32) → Prop} {fi cf cv cg cc ka kd kk : Nat → Int32} {cap : Int32} {i ni c t l : Nat} (hni : ni ≤ 60) (hi : i < ni) (hc : cc i = nI c) (hc20 : c ≤ 20) (hb : zk_ok ka kk)
    (hk : 0 ≤ (zf_on fi cf cv cg cc i 4 (nI t)).toInt ∧ (zf_on fi cf cv cg cc i 4 (nI t)).toInt ≤ 1000000) (hcap : 0 ≤ cap.toInt ∧ cap.toInt ≤ 100000000) (ht : t ≤ 9999) (hl : l ≤ 9999) (el : zf_on fi cf cv cg cc i 5 (nI t) = nI l)
    (x2 : ka i ≠ 0 → X zE_T)
    (x4 : ka i = 0 → (∀ e : Nat, t ≤ e → e ≤ l → cap.toInt < zk_s ka kd kk (nI e) + (zf_on fi cf cv cg cc i 4 (nI t)).toInt) → X zE_M)
    (k : ka i = 0 → ∀ d : Nat, t ≤ d → d ≤ l → zk_s ka kd kk (nI d) + (zf_on fi cf cv cg cc i 4 (nI t)).toInt ≤ cap.toInt → (∀ e : Nat, d < e → e ≤ l → cap.toInt < zk_s ka kd kk (nI e) + (zf_on fi cf cv cg cc i 4 (nI t)).toInt) →
      P (nI d) (upd ka i 1) (upd kd i (nI d)) (upd kk i (zf_on fi cf cv cg cc i 4 (nI t)))) : zp_Or_reserve (nI i) fi (nI ni) cf cv cg cc ka kd kk cap (nI t) P X := by
  have hin := zi_in (n := i) (N := 60) (by omega) (by omega)
  refine zr_itmHas (by omega) (zr_needIndex (fun z => absurd (zi_rng hi (by omega)) z) (fun _ => ⟨hin, ?_⟩))
  rw [zi_c (by omega)]
  refine ⟨fun z => zr_t0 (x2 z), fun z => zr_t1 (zr_valueOn (f := 4) (by omega) (by omega) hc hc20 (zr_valueOn (f := 5) (by omega) (by omega) hc hc20 ?_))⟩
  rw [el]
  refine zr_latestDayFor hb hk hcap ht hl (fun d h1 h2 h3 h4 => ⟨fun y => ?_, fun y => zr_m1 ?_⟩) (fun h => ⟨fun y => zr_m0 (x4 z h), fun y => absurd ?_ y⟩)
  · rw [zi_lt, zi_n (by omega), zi_n (by omega)] at y; omega
  · have kk := k z d h1 h2 h3 h4
    unfold zp_Cal_take
    rw [zi_c (by omega)]
    exact ⟨hin, hin, hin, kk⟩
  · have e1 : (-1 : Int32).toInt = -1 := by decide
    rw [zi_lt, zi_n (by omega), e1]; omega
/-- join -/
theorem zr_join_x {P : Int32 → (Nat → Int32) → Prop} {og : Nat → Int32} {a b : Int32} {no : Nat} (hno : no ≤ 30) (h : ¬ ((0 ≤ a.toInt ∧ a.toInt < no) ∧ (0 ≤ b.toInt ∧ b.toInt < no) ∧ a ≠ b)) (x : X zE_I) : zp_Or_join a b og (nI no) P X :=
  zr_ordHas (by omega) (zb_br (fun _ => zr_i0 x) (fun c1 => zr_ordHas (by omega) (zb_br (fun _ => zr_i0 x) (fun c2 => ⟨fun _ => zr_i0 x, fun c3 => absurd ⟨c1, c2, c3⟩ h⟩))))
def zg_m (og : Nat → Int32) (a b n : Nat) : Nat → Int32 := fun j => if j < n ∧ og j = og b then og a else og j
theorem zr_join {P : Int32 → (Nat → Int32) → Prop} {og : Nat → Int32} {a b no : Nat} (hno : no ≤ 30) (ha : a < no) (hb : b < no) (hab : a ≠ b) (k : ∀ r : Int32, r.toInt = zs_m (zg_t (zg_m og a b no) a) no → P r (zg_m og a b no)) : zp_Or_join (nI a) (nI b) og (nI no) P X :=
  zr_ordHas (by omega) (zb_br (fun z => absurd (zi_rng ha (by omega)) z) (fun _ => zr_ordHas (by omega) (zb_br (fun z => absurd (zi_rng hb (by omega)) z) (fun _ => ⟨fun z => absurd (zi_nn (by omega) (by omega) z) hab, fun _ => zr_i1 (zr_merge hno ha hb (zr_countTogether hno ha k))⟩))))
/-- ready -/
theorem zr_ready_x {P : Int32 → Prop} {og io fi cf cv cg cc ui ud uk ut : Nat → Int32} {p n un t : Int32} {no : Nat} (hno : no ≤ 30) (h : ¬ (0 ≤ p.toInt ∧ p.toInt < no)) (x : X zE_I) : zp_Or_ready p og (nI no) io fi n cf cv cg cc ui ud uk ut un t P X :=
  zr_ordHas (by omega) (zr_needIndex (fun _ => x) (fun c1 => absurd c1 h))
theorem zr_ready {P : Int32 → Prop} {og io fi cf cv cg cc ui ud uk ut : Nat → Int32} {un t : Int32} {o no n : Nat} {ST : Nat → Int32} (hno : no ≤ 30) (ho : o < no) (hn : n ≤ 60) (hio : ∀ j, j < n → ∃ q, q < 30 ∧ io j = nI q)
    (hS : ∀ j, j < n → ∀ Q : Int32 → Prop, Q (ST j) → zp_Or_stateOn (nI j) t fi cf cv cg cc ui ud uk ut un Q)
    (h1 : (∀ j, j < n → og o = og (io j).toNatClampNeg → 2 ≤ (ST j).toInt) → P 1) (h0 : (∃ j, j < n ∧ og o = og (io j).toNatClampNeg ∧ (ST j).toInt < 2) → P 0) : zp_Or_ready (nI o) og (nI no) io fi (nI n) cf cv cg cc ui ud uk ut un t P X :=
  zr_ordHas (by omega) (zr_needIndex (fun z => absurd (zi_rng ho (by omega)) z) (fun _ => zr_ready_loop (by omega) hn hio hS h1 h0))
/-- late -/
theorem zr_late {P : Int32 → Prop} {fi cf cv cg cc ui ud uk ut : Nat → Int32} {un t p : Int32} {n : Nat} {ST : Nat → Int32} (hn : n ≤ 60) (x : p.toInt < 0 → X zE_I)
    (hS : ∀ j, j < n → ∀ Q : Int32 → Prop, Q (ST j) → zp_Or_stateOn (nI j) t fi cf cv cg cc ui ud uk ut un Q)
    (h1 : 0 ≤ p.toInt → ∀ j, j < n → ST j = 1 → zs_m (yl_t ST) j = p.toInt → P (nI j)) (h0 : 0 ≤ p.toInt → zs_m (yl_t ST) n ≤ p.toInt → P (-1)) : zp_Or_late p fi (nI n) cf cv cg cc ui ud uk ut un t P X := by
  refine ⟨fun z => zr_i0 (x ?_), fun z => zr_i1 ?_⟩
  · rw [zi_lt, zi_0] at z; exact z
  · rw [zi_lt, zi_0] at z
    exact zr_late_loop hn (by omega) hS (h1 (by omega)) (h0 (by omega))
/-- tick -/
theorem zr_tick {P : Int32 → Int32 → Prop} {p t : Int32} (ht : 0 ≤ t.toInt ∧ t.toInt ≤ 9999) (k : zo3 True ((1 ≤ p.toInt ∧ p.toInt ≤ 1000) ∧ t.toInt + p.toInt ≤ 9999) True (X zE_T) (X zE_R) (X zE_M) (P (t + p) (t + p))) : zp_Or_tick p t P X := by
  have e9 : (9999 : Int32).toInt = 9999 := by decide
  have es : (9999 - t : Int32).toInt = 9999 - t.toInt := by
    rw [zi_sub (by rw [e9]; omega) (by rw [e9]; omega), e9]
  refine zr_isWithin (zb_br (fun z => zr_r0 (k.2.1 trivial (fun q => z q.1))) (fun z => ⟨fun y => zr_r0 (k.2.1 trivial (fun q => ?_)), fun y => zr_r1 (k.2.2.2 trivial ⟨z, ?_⟩ trivial)⟩))
  · rw [zi_lt, es] at y; omega
  · rw [zi_lt, es] at y; omega
end ZO
