/-! the second voice: the rest of its calls -/
theorem zm_made_x {Q : Int32 → Int32 → Int32 → (Nat → Int32) → (Nat → Int32) → (Nat → Int32) → Prop} {ui ud uk : Nat → Int32} {p q t th nu : Int32} {ni : Nat} (hni : ni ≤ 60) (h : ¬ (0 ≤ p.toInt ∧ p.toInt < ni)) (x : Q 0 1 nu ui ud uk) : zp_Mo_made p q th t (nI ni) nu ui ud uk Q := by
  refine zm_isItem (by omega) (zm_in (zb_br (fun z => ?_) (fun y => absurd y h)))
  rw [zb_f z]
  exact zm_goes3 (fun _ => zg0 x) (fun e => absurd rfl e) (fun e => absurd rfl e) (fun e => absurd rfl e)
theorem zm_made {Q : Int32 → Int32 → Int32 → (Nat → Int32) → (Nat → Int32) → (Nat → Int32) → Prop} {ui ud uk : Nat → Int32} {q t th : Int32} {i ni nu : Nat} {T : Int} (hni : ni ≤ 60) (hi : i < ni) (hnu : nu ≤ 200) (hk : ∀ j, j < nu → 0 ≤ (uk j).toInt ∧ (uk j).toInt ≤ 1000000)
    (hT : zs_m (zu_d ui ud uk (nI i) 9999) nu = T) (hT2 : 0 ≤ T ∧ T ≤ 200000000)
    (k : zo3 True (1 ≤ q.toInt ∧ q.toInt ≤ 1000000) (T + q.toInt ≤ 1000000000 ∧ nu < 200) False (Q 0 2 (nI nu) ui ud uk) (Q 0 3 (nI nu) ui ud uk)
      (∀ r : Int32, r.toInt = zs_m (zu_d (upd ui nu (nI i)) (upd ud nu t) (upd uk nu q) (nI i) 9999) (nu + 1) → Q r 0 (nI (nu + 1)) (upd ui nu (nI i)) (upd ud nu t) (upd uk nu q))) :
    zp_Mo_made (nI i) q th t (nI ni) (nI nu) ui ud uk Q := by
  have hr := zi_rng hi (by omega : ni < 2147483648)
  have eb : (1000000000 : Int32).toInt = 1000000000 := by decide
  refine zm_isItem (by omega) (zm_in (zb_br (fun z => absurd hr z) (fun y => ?_)))
  rw [zb_t y]
  refine zb_br (fun z => ?_) (fun z => ?_)
  · rw [zb_f z]
    exact zm_goes3 (fun e => z10 e) (fun _ _ => zg0 (k.2.1 trivial z)) (fun _ e => absurd rfl e) (fun _ e => absurd rfl e)
  rw [zb_t z]
  have z' : 1 ≤ q.toInt ∧ q.toInt ≤ 1000000 := z
  refine ⟨fun w => zm_goes3 (fun e => z10 e) (fun _ e => z10 e) (fun _ _ _ => zg0 (k.2.2.1 trivial z (fun v => ?_))) (fun _ _ e => absurd rfl e), fun w => zm_sum hnu hk (fun r hr2 => ⟨fun v => zm_goes3 (fun e => z10 e) (fun _ e => z10 e) (fun _ _ _ => zg0 (k.2.2.1 trivial z (fun u => ?_))) (fun _ _ e => absurd rfl e), fun v => zm_goes3 (fun e => z10 e) (fun _ e => z10 e) (fun _ _ e => z10 e) (fun _ _ _ => zg1 ?_)⟩)⟩
  · rw [zi_ge (k := 200) rfl (by omega)] at w; omega
  · rw [zi_lt, eb, zi_add (by omega) (by omega), hr2, hT] at v; omega
  · rw [zi_lt, eb, zi_add (by omega) (by omega), hr2, hT] at v
    rw [zi_ge (k := 200) rfl (by omega)] at w
    have kk := k.2.2.2 trivial z ⟨by omega, by omega⟩
    rw [zi_c (by omega), zi_n1]
    have hin := zi_in (n := nu) (N := 200) (by omega) (by omega)
    refine ⟨hin, hin, hin, zm_sum (by omega) (fun j hj => ?_) kk⟩
    by_cases e : j = nu
    · subst e; rw [up_s]; omega
    · rw [up_n _ _ e]; exact hk j (by omega)
theorem zm_state_x {Q : Int32 → Int32 → Prop} {fi cf cv cg cc ui ud uk : Nat → Int32} {p d th nu : Int32} {ni : Nat} (hni : ni ≤ 60) (h : ¬ (0 ≤ p.toInt ∧ p.toInt < ni)) (x : Q 0 1) : zp_Mo_state p d th (nI ni) fi cc cf cv cg nu ui ud uk Q :=
  zm_isItem (by omega) (zm_isDay (zm_goes2 (fun _ => zg0 x) (fun e => absurd (zb_f h) e) (fun e => absurd (zb_f h) e)))
theorem zm_state {Q : Int32 → Int32 → Prop} {fi cf cv cg cc ui ud uk : Nat → Int32} {d th nu : Int32} {i ni : Nat} (hni : ni ≤ 60) (hi : i < ni)
    (k : zo3 True (0 ≤ d.toInt ∧ d.toInt ≤ 9999) True False (Q 0 2) False (zp_Mo_stateOn (nI i) d fi cc cf cv cg nu ui ud uk (fun r => Q r 0))) : zp_Mo_state (nI i) d th (nI ni) fi cc cf cv cg nu ui ud uk Q := by
  have hr := zi_rng hi (by omega : ni < 2147483648)
  exact zm_isItem (by omega) (zm_isDay (zm_goes2 (fun e => absurd hr (zb_0 e)) (fun _ e => zg0 (k.2.1 trivial (zb_0 e))) (fun _ e => zg1 (k.2.2.2 trivial (zb_1 e) trivial))))
theorem zm_rest_x {Q : Int32 → Int32 → Prop} {fi cf cv cg cc ui ud uk : Nat → Int32} {p t th nu : Int32} {ni : Nat} (hni : ni ≤ 60) (h : ¬ (0 ≤ p.toInt ∧ p.toInt < ni)) (x : Q 0 1) : zp_Mo_rest p th t (nI ni) fi cc cf cv cg nu ui ud uk Q :=
  zm_isItem (by omega) (zm_goes1 (fun _ => zg0 x) (fun e => absurd (zb_f h) e))
theorem zm_rest {Q : Int32 → Int32 → Prop} {fi cf cv cg cc ui ud uk : Nat → Int32} {t th : Int32} {i ni nu : Nat} (hni : ni ≤ 60) (hi : i < ni) (hC : zj_c cf cv cg cc ni) (hnu : nu ≤ 200) (hk : ∀ j, j < nu → 0 ≤ (uk j).toInt ∧ (uk j).toInt ≤ 1000000)
    (k : ∀ r : Int32, r.toInt = zs_m (zu_d ui ud uk (nI i) t) nu → Q (if 0 < (zf_on fi cf cv cg cc i 3 t - r) then (zf_on fi cf cv cg cc i 3 t - r) else 0) 0) : zp_Mo_rest (nI i) th t (nI ni) fi cc cf cv cg (nI nu) ui ud uk Q := by
  have hr := zi_rng hi (by omega : ni < 2147483648)
  refine zm_isItem (by omega) (zm_goes1 (fun e => absurd hr (zb_0 e)) (fun _ => zg1 (zm_on (f := 3) hC (by omega) (by omega) (zm_sum hnu hk (fun r hr2 y7 h7 => ?_)))))
  have kk := k r hr2
  rw [← h7] at kk
  refine ⟨fun z => ?_, fun z => ?_⟩
  · rwa [if_neg (fun w => by rw [zi_le] at z; rw [zi_lt] at w; omega)] at kk
  · rwa [if_pos (by rw [zi_le] at z; rw [zi_lt]; omega)] at kk
theorem zm_costs {Q : Int32 → Int32 → Int32 → Int32 → Prop} {a b c rb rt rx th : Int32}
    (k : zo3 True ((0 ≤ a.toInt ∧ a.toInt ≤ 100000) ∧ (0 ≤ b.toInt ∧ b.toInt ≤ 100000) ∧ (0 ≤ c.toInt ∧ c.toInt ≤ 100000)) True False (Q 1 rb rt rx) False (Q 0 a b c)) : zp_Mo_costs a b c th rb rt rx Q := by
  have L0 : ¬ ((0 ≤ a.toInt ∧ a.toInt ≤ 100000) ∧ (0 ≤ b.toInt ∧ b.toInt ≤ 100000) ∧ (0 ≤ c.toInt ∧ c.toInt ≤ 100000)) → zp_Mo_costs_27 a b c Q 0 th rb rt rx := fun h => zm_goes1 (fun _ => zg0 (k.2.1 trivial h)) (fun e => absurd rfl e)
  exact zm_isCost (zb_br (fun z => L0 (fun q => z q.1)) (fun y1 => zm_isCost (zb_br (fun z => L0 (fun q => z q.2.1)) (fun y2 => zm_isCost (zb_br (fun z => L0 (fun q => z q.2.2)) (fun y3 => zm_goes1 (fun e => z10 e) (fun _ => zg1 (k.2.2.2 trivial ⟨y1, y2, y3⟩ trivial))))))))
def zm_q (m w rb rt rx : Int32) : Int64 := (rb.toInt64 + (((m + 999) / 1000).toInt64 * rt.toInt64)) + (w.toInt64 * rx.toInt64)
theorem zm_quote_x {Q : Int32 → Int32 → Int32 → (Nat → Int32) → (Nat → Int32) → (Nat → Int64) → Prop} {fi cf cv cg cc qi qu : Nat → Int32} {qc : Nat → Int64} {p q rb rt rx qn t th : Int32} {ni : Nat} (hni : ni ≤ 60) (h : ¬ (0 ≤ p.toInt ∧ p.toInt < ni)) (x : Q 0 1 qn qi qu qc) : zp_Mo_quote p q th t (nI ni) fi cc cf cv cg rb rt rx qn qi qu qc Q :=
  zm_isItem (by omega) (zm_in ⟨fun _ => zm_goes3 (fun _ => zg0 x) (fun e => absurd (zb_f h) e) (fun e => absurd (zb_f h) e) (fun e => absurd (zb_f h) e), fun _ => zm_goes3 (fun _ => zg0 x) (fun e => absurd (zb_f h) e) (fun e => absurd (zb_f h) e) (fun e => absurd (zb_f h) e)⟩)
theorem zm_quote {Q : Int32 → Int32 → Int32 → (Nat → Int32) → (Nat → Int32) → (Nat → Int64) → Prop} {fi cf cv cg cc qi qu : Nat → Int32} {qc : Nat → Int64} {q rb rt rx t th : Int32} {i ni nq : Nat} (hni : ni ≤ 60) (hi : i < ni) (hC : zj_c cf cv cg cc ni) (hnq : nq ≤ 60)
    (k : zo3 True (t.toInt ≤ q.toInt ∧ q.toInt ≤ 9999) (nq < 60) False (Q 0 2 (nI nq) qi qu qc) (Q 0 3 (nI nq) qi qu qc)
      (Q (nI nq) 0 (nI (nq + 1)) (upd qi nq (nI i)) (upd qu nq q) (vp_updL qc nq (zm_q (zf_on fi cf cv cg cc i 4 t) (zf_on fi cf cv cg cc i 1 t) rb rt rx)))) : zp_Mo_quote (nI i) q th t (nI ni) fi cc cf cv cg rb rt rx (nI nq) qi qu qc Q := by
  have hr := zi_rng hi (by omega : ni < 2147483648)
  refine zm_isItem (by omega) (zm_in ⟨fun z => zm_goes3 (fun e => absurd hr (zb_0 e)) (fun _ e => zg0 (k.2.1 trivial (zb_0 e))) (fun _ b _ => zg0 (k.2.2.1 trivial (zb_1 b) ?_)) (fun _ _ e => absurd rfl e), fun z => zm_goes3 (fun e => absurd hr (zb_0 e)) (fun _ e => zg0 (k.2.1 trivial (zb_0 e))) (fun _ _ e => z10 e) (fun _ b _ => zg1 ?_)⟩)
  · rw [zi_ge (k := 60) rfl (by omega)] at z; omega
  · rw [zi_ge (k := 60) rfl (by omega)] at z
    have kk := k.2.2.2 trivial (zb_1 b) (by omega)
    have hin := zi_in (n := nq) (N := 60) (by omega) (by omega)
    refine zm_on (f := 4) hC (by omega) (by omega) ⟨by decide, fun y hy => ⟨hin, hin, zm_on (f := 1) hC (by omega) (by omega) ⟨hin, ?_⟩⟩⟩
    subst hy
    rw [zi_c (by omega), zi_n1, zi_n1s]
    exact kk
theorem zm_q_e {m w rb rt rx : Int32} (hm : 0 ≤ m.toInt ∧ m.toInt ≤ 1000000) : zm_q m w rb rt rx = zq_c m w rb rt rx := by
  have e9 : (999 : Int32).toInt = 999 := by decide
  have e1 : (1000 : Int32).toInt = 1000 := by decide
  have f9 : (999 : Int64).toInt = 999 := by decide
  have f1 : (1000 : Int64).toInt = 1000 := by decide
  have a1 : (m + 999).toInt = m.toInt + 999 := by
    rw [zi_add (by rw [e9]; omega) (by rw [e9]; omega), e9]
  have a2 : ((m + 999) / 1000).toInt = (m.toInt + 999) / 1000 := by
    rw [Int32.toInt_div, a1, e1, Int.tdiv_eq_ediv_of_nonneg (by omega), zi_bm (by omega) (by omega)]
  have b1 : (m.toInt64 + 999).toInt = m.toInt + 999 := by
    rw [zi_add6 (by rw [Int32.toInt_toInt64, f9]; omega) (by rw [Int32.toInt_toInt64, f9]; omega), Int32.toInt_toInt64, f9]
  have b2 : ((m.toInt64 + 999) / 1000).toInt = (m.toInt + 999) / 1000 := by
    rw [lg_ldiv_nonneg (by rw [b1]; omega) (by rw [f1]; omega), b1, f1]
  have e : ((m + 999) / 1000).toInt64 = (m.toInt64 + 999) / 1000 := Int64.toInt_inj.mp (by rw [Int32.toInt_toInt64, a2, b2])
  unfold zm_q zq_c
  rw [e]
theorem zm_quoteAt_x {Q : Int32 → Int32 → Prop} {qi qu qa : Nat → Int32} {p w th : Int32} {nq : Nat} (hnq : nq ≤ 60) (h : ¬ ((0 ≤ p.toInt ∧ p.toInt < nq) ∧ 0 ≤ w.toInt ∧ w.toInt ≤ 2)) (x : Q 0 1) : zp_Mo_quoteAt p w th (nI nq) qi qu qa Q := by
  have L : zp_Mo_quoteAt_23 p w qi qu qa Q 0 th := zm_goes1 (fun _ => zg0 x) (fun e => absurd rfl e)
  exact zm_isQuote (by omega) (zb_br (fun _ => L) (fun y => zm_in (zb_br (fun _ => L) (fun z => absurd ⟨y, z⟩ h))))
theorem zm_quoteAt {Q : Int32 → Int32 → Prop} {qi qu qa : Nat → Int32} {w th : Int32} {j nq : Nat} (hnq : nq ≤ 60) (hj : j < nq) (hw : 0 ≤ w.toInt ∧ w.toInt ≤ 2)
    (k : Q (if w = 0 then qi j else if w = 1 then qu j else if qa j = 0 then 0 else 1) 0) : zp_Mo_quoteAt (nI j) w th (nI nq) qi qu qa Q := by
  have hr := zi_rng hj (by omega : nq < 2147483648)
  have hin := zi_in (n := j) (N := 60) (by omega) (by omega)
  have L : zp_Mo_quoteAt_23 (nI j) w qi qu qa Q 1 th := by
    refine zm_goes1 (fun e => z10 e) (fun _ => zg1 ?_)
    rw [zi_c (by omega)]
    refine ⟨fun z1 => ⟨fun z2 => ⟨hin, fun z3 => ?_, fun z3 => ?_⟩, fun z2 => ⟨hin, ?_⟩⟩, fun z1 => ⟨hin, ?_⟩⟩
    · rwa [if_neg z1, if_neg z2, if_pos z3] at k
    · rwa [if_neg z1, if_neg z2, if_neg z3] at k
    · rwa [if_neg z1, if_pos z2] at k
    · rwa [if_pos z1] at k
  exact zm_isQuote (by omega) (zb_br (fun z => absurd hr z) (fun _ => zm_in (zb_br (fun z => absurd hw z) (fun _ => L))))
theorem zm_price_x {Q : Int64 → Int32 → Prop} {qc : Nat → Int64} {p th : Int32} {nq : Nat} (hnq : nq ≤ 60) (h : ¬ (0 ≤ p.toInt ∧ p.toInt < nq)) (x : Q 0 1) : zp_Mo_price p th (nI nq) qc Q :=
  zm_isQuote (by omega) (zm_goes1 (fun _ => zg0 x) (fun e => absurd (zb_f h) e))
theorem zm_price {Q : Int64 → Int32 → Prop} {qc : Nat → Int64} {th : Int32} {j nq : Nat} (hnq : nq ≤ 60) (hj : j < nq) (k : Q (qc j) 0) : zp_Mo_price (nI j) th (nI nq) qc Q := by
  have hr := zi_rng hj (by omega : nq < 2147483648)
  refine zm_isQuote (by omega) (zm_goes1 (fun e => absurd hr (zb_0 e)) (fun _ => zg1 ⟨zi_in (by omega) (by omega), ?_⟩))
  rw [zi_c (by omega)]
  exact k
theorem zm_credit_x {Q : Int32 → (Nat → Int32) → Prop} {al : Nat → Int32} {p v th : Int32} (h : ¬ (0 ≤ p.toInt ∧ p.toInt ≤ 9)) (x : Q 1 al) : zp_Mo_credit p v th al Q :=
  zm_in (zm_in (zm_goes2 (fun _ => zh0 x) (fun e => absurd (zb_1 e) h) (fun e => absurd (zb_1 e) h)))
theorem zm_credit {Q : Int32 → (Nat → Int32) → Prop} {al : Nat → Int32} {v th : Int32} {c : Nat} (hc : c < 10) (k : zo3 True (0 ≤ v.toInt ∧ v.toInt ≤ 2000000000) True False (Q 2 al) False (Q 0 (upd al c v))) : zp_Mo_credit (nI c) v th al Q := by
  have hc9 : (0 : Int32).toInt ≤ (nI c).toInt ∧ (nI c).toInt ≤ (9 : Int32).toInt := by
    have : (9 : Int32).toInt = 9 := by decide
    rw [zi_n (by omega), this, zi_0]; omega
  refine zm_in (zm_in (zm_goes2 (fun e => absurd hc9 (zb_0 e)) (fun _ e => zh0 (k.2.1 trivial (zb_0 e))) (fun _ e => zh1 ⟨zi_in (by omega) (by omega), ?_⟩)))
  rw [zi_c (by omega)]
  exact k.2.2.2 trivial (zb_1 e) trivial
theorem zm_accept_x {Q : Int64 → Int32 → (Nat → Int32) → Prop} {oc io qi qu qa al : Nat → Int32} {qc : Nat → Int64} {p t th : Int32} {nq : Nat} (hnq : nq ≤ 60) (h : ¬ (0 ≤ p.toInt ∧ p.toInt < nq)) (x : Q 0 1 qa) : zp_Mo_accept p th t al oc io (nI nq) qi qu qc qa Q := by
  refine zm_isQuote (by omega) (zb_br (fun z => ?_) (fun y => absurd y h))
  rw [zb_f z]
  have L : zp_Mo_accept_77 p t al oc io qi qu Q 0 0 th qa := zh0 (zh0 (zm_goes3 (fun _ => zg0 x) (fun e => absurd rfl e) (fun e => absurd rfl e) (fun e => absurd rfl e)))
  exact ⟨1, fun _ => L, fun _ => zh0 L⟩
theorem zm_accept {Q : Int64 → Int32 → (Nat → Int32) → Prop} {oc io qi qu qa al : Nat → Int32} {qc : Nat → Int64} {t th : Int32} {j i o c nq ni no : Nat} (hnq : nq ≤ 60) (hj : j < nq) (hi : i < 60) (ei : qi j = nI i) (ho : o < 30) (eo : io i = nI o) (hc : c < 10) (ec : oc o = nI c)
    (hQ : zj_q qi qa qc ni nq) (hni : ni ≤ 60) (hno : no ≤ 30) (hI : ∀ j, j < ni → ∃ o, o < no ∧ io j = nI o)
    (k : ∀ v : Int64, v.toInt = (qc j).toInt + zs_m (zq_t oc io qi qa qc (nI c)) nq → zo3 (qa j = 0 ∧ t.toInt ≤ (qu j).toInt) True (v.toInt ≤ (al c).toInt) (Q 0 2 qa) False (Q 0 3 qa) (Q v 0 (upd qa j 1))) :
    zp_Mo_accept (nI j) th t al oc io (nI nq) qi qu qc qa Q := by
  have hr := zi_rng hj (by omega : nq < 2147483648)
  have hin := zi_in (n := j) (N := 60) (by omega) (by omega)
  have ej : (nI j).toNatClampNeg = j := zi_c (by omega)
  have fin : ∀ v : Int64, v.toInt = (qc j).toInt + zs_m (zq_t oc io qi qa qc (nI c)) nq → zp_Mo_accept_77 (nI j) t al oc io qi qu Q 1 v th qa := by
    intro v hv
    have kk := k v hv
    have L135 : ∀ m g : Int32, (m = 0 → ¬ (qa j = 0 ∧ t.toInt ≤ (qu j).toInt)) → (¬ m = 0 → (qa j = 0 ∧ t.toInt ≤ (qu j).toInt)) → (g = 0 → ¬ v.toInt ≤ (al c).toInt) → (¬ g = 0 → v.toInt ≤ (al c).toInt) → zp_Mo_accept_135 (nI j) Q v 1 m g th qa := by
      intro m g m0 m1 g0 g1
      refine zm_goes3 (fun e => z10 e) (fun _ e => zg0 (kk.1 (m0 e))) (fun _ d e => zg0 (kk.2.2.1 (m1 d) trivial (g0 e))) (fun _ d e => zg1 ⟨hin, ?_⟩)
      rw [ej]
      exact kk.2.2.2 (m1 d) trivial (g1 e)
    have L110 : ∀ m : Int32, (m = 0 → ¬ (qa j = 0 ∧ t.toInt ≤ (qu j).toInt)) → (¬ m = 0 → (qa j = 0 ∧ t.toInt ≤ (qu j).toInt)) → zp_Mo_accept_110 (nI j) al oc io qi Q 1 v 1 m th qa := by
      intro m m0 m1
      refine zh1 (zm_customerOf (by omega) hi ei ho eo ?_)
      rw [ec]
      refine ⟨zi_in hc (by omega), fun z => L135 m 0 m0 m1 (fun _ w => ?_) (fun w => absurd rfl w), fun z => L135 m 1 m0 m1 (fun w => z10 w) (fun _ => ?_)⟩
      · rw [zi_c (by omega), lg_cmp_gt, Int64.lt_iff_toInt_lt, Int32.toInt_toInt64] at z; omega
      · rw [zi_c (by omega), lg_cmp_gt, Int64.lt_iff_toInt_lt, Int32.toInt_toInt64] at z; omega
    refine zh1 ⟨hin, ?_⟩
    rw [ej]
    refine ⟨fun z => L110 0 (fun _ w => z w.1) (fun w => absurd rfl w), fun z => ⟨hin, fun y => L110 0 (fun _ w => ?_) (fun w => absurd rfl w), fun y => L110 1 (fun w => z10 w) (fun _ => ⟨z, ?_⟩)⟩⟩
    · rw [zi_lt] at y; omega
    · rw [zi_lt] at y; omega
  have hb : ∀ m, m < nq → 0 ≤ zq_t oc io qi qa qc (nI c) m ∧ zq_t oc io qi qa qc (nI c) m ≤ 11000000000 := fun m hm => by
    have := hQ.2.2.1 m hm
    unfold zq_t; split
    · exact this
    · omega
  have hqj := hQ.2.2.1 j hj
  have loop : ∀ k m : Nat, m + k = nq → ∀ v : Int64, v.toInt = (qc j).toInt + zs_m (zq_t oc io qi qa qc (nI c)) m → zp_Mo_accept_24 (nI j) t al oc io (nI nq) qi qu qc Q 1 th qa (k + 1) v (nI m) := by
    intro k
    induction k with
    | zero =>
      intro m hm v hv
      obtain rfl : m = nq := by omega
      exact ⟨fun _ => fin v hv, fun z => absurd (Int32.le_refl _) z⟩
    | succ k ih =>
      intro m hm v hv
      have hs := zs_b m (fun a ha => hb a (by omega))
      have ht := hb m (by omega)
      have hm60 : (m : Int) * 11000000000 ≤ 660000000000 := by omega
      have step : ∀ w : Int64, w.toInt = (qc j).toInt + (zs_m (zq_t oc io qi qa qc (nI c)) m + zq_t oc io qi qa qc (nI c) m) → zp_Mo_accept_71 (zp_Mo_accept_24 (nI j) t al oc io (nI nq) qi qu qc Q 1 th qa (k + 1)) w (nI m) := by
        intro w hw
        show zp_Mo_accept_24 (nI j) t al oc io (nI nq) qi qu qc Q 1 th qa (k + 1) w (nI m + 1)
        rw [zi_n1]
        exact ih (m + 1) (by omega) w hw
      obtain ⟨i2, hi2, ei2⟩ := hQ.2.1 m (by omega)
      obtain ⟨o2, ho2, eo2⟩ := hI i2 hi2
      have en : oc (io (qi m).toNatClampNeg).toNatClampNeg = oc o2 := by rw [ei2, zi_c (by omega), eo2, zi_c (by omega)]
      have hinm := zi_in (n := m) (N := 60) (by omega) (by omega)
      refine ⟨fun z => absurd z ?_, fun _ => zh1 ⟨hinm, ?_⟩⟩
      · rw [zi_le, zi_n (by omega), zi_n (by omega)]; omega
      rw [zi_c (by omega)]
      refine ⟨fun z => step v ?_, fun z => zm_customerOf (by omega) (by omega) ei2 (by omega) eo2 (zm_customerOf (by omega) hi ei ho eo ⟨fun y => step v ?_, fun y => ⟨hinm, fun w hw => step w ?_⟩⟩)⟩
      · rw [hv, zq_t, if_neg (fun q => q.1 z)]; omega
      · rw [hv, zq_t, if_neg (fun q => y (by rw [ec, ← en]; exact q.2))]; omega
      · have et : zq_t oc io qi qa qc (nI c) m = (qc m).toInt := if_pos ⟨z, by rw [en, y, ec]⟩
        rw [et] at ht ⊢
        rw [hw, zi_add6 (by omega) (by omega), hv]; omega
  refine zm_isQuote (by omega) (zb_br (fun z => absurd hr z) (fun y => ⟨hin, ?_⟩))
  rw [zb_t y, ej]
  have z := loop nq 0 (by omega) (qc j) (by show _ = _ + (0 : Int); omega)
  rw [zi_n0] at z
  exact ⟨_, z⟩
theorem zm_capacity {Q : Int32 → Int32 → Prop} {p cap th : Int32} {tk : Nat → Int32}
    (k : zo3 True (0 ≤ p.toInt ∧ p.toInt ≤ 100000000) (∀ d, d < 10000 → (tk d).toInt ≤ p.toInt) False (Q 1 cap) (Q 2 cap) (Q 0 p)) : zp_Mo_capacity p th cap tk Q := by
  have e9 : (9999 : Int32).toInt = 9999 := by decide
  have loop : ∀ k d : Nat, d + k = 10000 → ∀ v : Int32, (v = 0 → ¬ ∀ a, a < 10000 → (tk a).toInt ≤ p.toInt) → (¬ v = 0 → ∀ a, a < d → (tk a).toInt ≤ p.toInt) → zp_Mo_capacity_4 p tk Q th cap (k + 1) v (nI d) := by
    intro k'
    induction k' with
    | zero =>
      intro d hd v v0 v1
      obtain rfl : d = 10000 := by omega
      refine ⟨fun _ => zm_in (zm_goes2 (fun e => zh0 (k.2.1 trivial (zb_0 e))) (fun a e => zh0 (k.2.2.1 trivial (zb_1 a) (v0 e))) (fun a e => zh1 (k.2.2.2 trivial (zb_1 a) (v1 e)))), fun z => absurd ?_ z⟩
      rw [zi_lt, e9, zi_n (by omega)]; omega
    | succ k' ih =>
      intro d hd v v0 v1
      refine ⟨fun z => absurd z ?_, fun _ => ⟨zi_in (by omega) (by omega), ?_⟩⟩
      · rw [zi_lt, e9, zi_n (by omega)]; omega
      rw [zi_c (by omega)]
      refine ⟨fun z => ?_, fun z => ?_⟩
      · show zp_Mo_capacity_4 p tk Q th cap (k' + 1) v (nI d + 1)
        rw [zi_n1]
        refine ih (d + 1) (by omega) v v0 (fun hv a ha => ?_)
        by_cases e : a = d
        · subst e; rw [zi_le] at z; exact z
        · exact v1 hv a (by omega)
      · show zp_Mo_capacity_4 p tk Q th cap (k' + 1) 0 (nI d + 1)
        rw [zi_n1]
        refine ih (d + 1) (by omega) 0 (fun _ w => z ?_) (fun hv => absurd rfl hv)
        rw [zi_le]; exact w d (by omega)
  have z := loop 10000 0 (by omega) 1 (fun e => z10 e) (fun _ a ha => absurd ha (Nat.not_lt_zero a))
  rw [zi_n0] at z
  exact ⟨_, z⟩
theorem zm_reserve_x {Q : Int32 → Int32 → (Nat → Int32) → (Nat → Int32) → Prop} {fi cf cv cg cc ka tk : Nat → Int32} {p cap th : Int32} {ni t : Nat} (hni : ni ≤ 60) (ht : t ≤ 9999) (h : ¬ (0 ≤ p.toInt ∧ p.toInt < ni)) (x : Q 0 1 ka tk) : zp_Mo_reserve p th (nI t) (nI ni) fi ka cc cf cv cg cap tk Q := by
  have nl : (-1 : Int32) < nI t := by
    have : (-1 : Int32).toInt = -1 := by decide
    rw [zi_lt, this, zi_n (by omega)]; omega
  refine zm_isItem (by omega) (zb_br (fun z => ?_) (fun y => absurd y h))
  rw [zb_f z]
  exact zh0 ⟨1, fun _ => zh0 ⟨fun _ => zm_goes3 (fun _ => zg0 x) (fun e => absurd rfl e) (fun e => absurd rfl e) (fun e => absurd rfl e), fun z => absurd nl z⟩, fun z => absurd nl z⟩
theorem zm_reserve {Q : Int32 → Int32 → (Nat → Int32) → (Nat → Int32) → Prop} {fi cf cv cg cc ka tk : Nat → Int32} {cap th : Int32} {i ni t l : Nat} (hni : ni ≤ 60) (hi : i < ni) (hC : zj_c cf cv cg cc ni)
    (hk : 0 ≤ (zf_on fi cf cv cg cc i 4 (nI t)).toInt ∧ (zf_on fi cf cv cg cc i 4 (nI t)).toInt ≤ 1000000) (hcap : 0 ≤ cap.toInt ∧ cap.toInt ≤ 100000000) (htk : ∀ d, d < 10000 → 0 ≤ (tk d).toInt ∧ (tk d).toInt ≤ 60000000) (ht : t ≤ 9999) (hl : l ≤ 9999) (el : zf_on fi cf cv cg cc i 5 (nI t) = nI l)
    (x2 : ka i ≠ 0 → Q 0 2 ka tk)
    (x4 : ka i = 0 → (∀ e : Nat, t ≤ e → e ≤ l → cap.toInt < (tk e).toInt + (zf_on fi cf cv cg cc i 4 (nI t)).toInt) → Q 0 3 ka tk)
    (k : ka i = 0 → ∀ d : Nat, t ≤ d → d ≤ l → (tk d).toInt + (zf_on fi cf cv cg cc i 4 (nI t)).toInt ≤ cap.toInt → (∀ e : Nat, d < e → e ≤ l → cap.toInt < (tk e).toInt + (zf_on fi cf cv cg cc i 4 (nI t)).toInt) →
      Q (nI d) 0 (upd ka i 1) (upd tk d (tk d + zf_on fi cf cv cg cc i 4 (nI t)))) : zp_Mo_reserve (nI i) th (nI t) (nI ni) fi ka cc cf cv cg cap tk Q := by
  have hr := zi_rng hi (by omega : ni < 2147483648)
  have hin := zi_in (n := i) (N := 60) (by omega) (by omega)
  have ei : (nI i).toNatClampNeg = i := zi_c (by omega)
  refine zm_isItem (by omega) (zb_br (fun z => absurd hr z) (fun y => ?_))
  rw [zb_t y]
  refine zm_on (f := 4) hC (by omega) (by omega) (zh1 (zm_on (f := 5) hC (by omega) (by omega) ?_))
  rw [el]
  generalize zf_on fi cf cv cg cc i 4 (nI t) = kl at hk x4 k ⊢
  have none : ∀ d : Int32, d.toInt < t → (∀ e : Nat, t ≤ e → e ≤ l → cap.toInt < (tk e).toInt + kl.toInt) → zp_Mo_reserve_76 (nI i) (nI t) Q 1 kl d th ka tk := by
    intro d hd hv
    have hlt : d < nI t := by rw [zi_lt, zi_n (by omega)]; exact hd
    refine zh1 ⟨hin, ?_⟩
    rw [ei]
    refine ⟨fun z => ⟨fun _ => zm_goes3 (fun e => z10 e) (fun _ _ => zg0 (x2 z)) (fun _ e => absurd rfl e) (fun _ e => absurd rfl e), fun w => absurd hlt w⟩, fun z => ⟨fun _ => zm_goes3 (fun e => z10 e) (fun _ e => z10 e) (fun _ _ _ => zg0 (x4 z hv)) (fun _ _ e => absurd rfl e), fun w => absurd hlt w⟩⟩
  have loop : ∀ n : Nat, ∀ d : Int32, d.toInt + 1 = (n : Int) + t → d.toInt ≤ l → (∀ e : Nat, d.toInt < e → e ≤ l → cap.toInt < (tk e).toInt + kl.toInt) → zp_Mo_reserve_45 (nI i) (nI t) cap Q 1 kl th ka tk (n + 1) d := by
    intro n
    induction n with
    | zero =>
      intro d hd hdl hv
      refine ⟨fun _ => none d (by omega) (fun e h1 h2 => hv e (by omega) h2), fun w => absurd ?_ w⟩
      rw [zi_lt, zi_n (by omega)]; omega
    | succ n ih =>
      intro d hd hdl hv
      obtain ⟨j, hj, hj2, rfl⟩ := zi_of (x := d) (by omega)
      rw [zi_n hj2] at hd hdl hv
      obtain ⟨w, ew, hw⟩ := zi_dec hj2
      have goal : (∀ e : Nat, (j : Int) - 1 < e → e ≤ l → cap.toInt < (tk e).toInt + kl.toInt) → zp_Mo_reserve_45 (nI i) (nI t) cap Q 1 kl th ka tk (n + 1) (nI j + (-1)) := by
        intro hv'
        rw [ew]
        exact ih w (by omega) (by omega) (fun e h1 h2 => hv' e (by omega) h2)
      clear ew hw
      have htj := htk j (by omega)
      have es : (cap - tk j).toInt = cap.toInt - (tk j).toInt := zi_sub (by omega) (by omega)
      refine ⟨fun z => ?_, fun z => ⟨zi_in (by omega) (by omega), ?_⟩⟩
      · rw [zi_lt, zi_n hj2, zi_n (by omega)] at z; omega
      rw [zi_c (by omega)]
      refine ⟨fun w => zh1 ⟨hin, ?_⟩, fun w => goal (fun e h1 h2 => ?_)⟩
      · rw [zi_le, es] at w
        rw [ei]
        refine ⟨fun v => ⟨fun u => absurd u z, fun _ => zm_goes3 (fun e => z10 e) (fun _ _ => zg0 (x2 v)) (fun _ e => absurd rfl e) (fun _ e => absurd rfl e)⟩, fun v => ⟨fun u => absurd u z, fun _ => zm_goes3 (fun e => z10 e) (fun _ e => z10 e) (fun _ _ e => z10 e) (fun _ _ _ => zg1 ⟨hin, zi_in (by omega) (by omega), zi_in (by omega) (by omega), ?_⟩)⟩⟩
        rw [ei, zi_c (n := j) (by omega)]
        rw [zi_lt, zi_n hj2, zi_n (by omega)] at z
        exact k v j (by omega) (by omega) (by omega) (fun e h1 h2 => hv e (by omega) h2)
      · rw [zi_le, es] at w
        by_cases he : e = j
        · subst he; omega
        · exact hv e (by omega) h2
  by_cases hlt : t ≤ l
  · refine ⟨(l + 1 - t) + 1, loop (l + 1 - t) (nI l) (by rw [zi_n (by omega)]; omega) (by rw [zi_n (by omega)]; omega) (fun e h1 h2 => ?_)⟩
    rw [zi_n (by omega)] at h1; omega
  · refine ⟨1, fun _ => none (nI l) (by rw [zi_n (by omega)]; omega) (fun e h1 h2 => by omega), fun w => absurd ?_ w⟩
    rw [zi_lt, zi_n (by omega), zi_n (by omega)]; omega
theorem zm_join_x {Q : Int32 → Int32 → (Nat → Int32) → Prop} {og : Nat → Int32} {a b th : Int32} {no : Nat} (hno : no ≤ 30) (h : ¬ ((0 ≤ a.toInt ∧ a.toInt < no) ∧ (0 ≤ b.toInt ∧ b.toInt < no) ∧ a ≠ b)) (x : Q 0 1 og) : zp_Mo_join a b th (nI no) og Q := by
  have L : zp_Mo_join_27 a b (nI no) Q 0 th og := zm_goes1 (fun _ => zg0 x) (fun e => absurd rfl e)
  exact zm_isOrder (by omega) (zb_br (fun _ => L) (fun c1 => zm_isOrder (by omega) (zb_br (fun _ => L) (fun c2 => ⟨fun _ => L, fun c3 => absurd ⟨c1, c2, c3⟩ h⟩))))
theorem zm_join {Q : Int32 → Int32 → (Nat → Int32) → Prop} {og : Nat → Int32} {a b no : Nat} {th : Int32} (hno : no ≤ 30) (ha : a < no) (hb : b < no) (hab : a ≠ b) (k : ∀ r : Int32, r.toInt = zs_m (zg_t (zg_m og a b no) a) no → Q r 0 (zg_m og a b no)) : zp_Mo_join (nI a) (nI b) th (nI no) og Q := by
  have hz : ∀ j, 0 ≤ zg_t (zg_m og a b no) a j ∧ zg_t (zg_m og a b no) a j ≤ 1 := fun j => by unfold zg_t; split <;> omega
  have eA : zg_m og a b no a = og a := by
    unfold zg_m
    by_cases h : a < no ∧ og a = og b
    · rw [if_pos h]
    · rw [if_neg h]
  have loop : ∀ k j : Nat, j + k = no → ∀ v : Int32, v.toInt = zs_m (zg_t (zg_m og a b no) a) j → zp_Mo_join_59 (nI no) Q (og b) (og a) 0 (k + 1) v (nI j) (fun i => if i < j ∧ og i = og b then og a else og i) := by
    intro k'
    induction k' with
    | zero =>
      intro j hj v hv
      obtain rfl : j = no := by omega
      exact ⟨fun _ => k v hv, fun z => absurd (Int32.le_refl _) z⟩
    | succ k' ih =>
      intro j hj v hv
      have hin : vp_in (nI j) 30 := zi_in (by omega) (by omega)
      have hs := zs_b j (fun i _ => hz i)
      have next : ∀ (g : Nat → Int32), g = (fun i => if i < j + 1 ∧ og i = og b then og a else og i) → zp_Mo_join_88 (zp_Mo_join_59 (nI no) Q (og b) (og a) 0 (k' + 1)) (og a) v (nI j) g := by
        intro g hg
        have gj : g j = zg_m og a b no j := by
          rw [hg]; unfold zg_m
          by_cases h : og j = og b
          · rw [if_pos ⟨by omega, h⟩]
            show (if j < j + 1 ∧ og j = og b then og a else og j) = og a
            rw [if_pos ⟨by omega, h⟩]
          · rw [if_neg (fun q => h q.2)]
            show (if j < j + 1 ∧ og j = og b then og a else og j) = og j
            rw [if_neg (fun q => h q.2)]
        refine ⟨hin, ?_⟩
        rw [zi_c (by omega), gj]
        refine ⟨fun z => ?_, fun z => ?_⟩
        · show zp_Mo_join_59 (nI no) Q (og b) (og a) 0 (k' + 1) v (nI j + 1) g
          rw [zi_n1, hg]
          refine ih (j + 1) (by omega) v ?_
          show _ = zs_m _ j + zg_t _ _ j
          rw [hv, zg_t, eA, if_neg (fun q => z q.symm)]; omega
        · show zp_Mo_join_59 (nI no) Q (og b) (og a) 0 (k' + 1) (v + 1) (nI j + 1) g
          rw [zi_n1, hg]
          refine ih (j + 1) (by omega) (v + 1) ?_
          show _ = zs_m _ j + zg_t _ _ j
          rw [zi_add (by rw [hv, zi_1]; omega) (by rw [hv, zi_1]; omega), hv, zg_t, eA, if_pos z.symm, zi_1]
      refine ⟨fun z => absurd z ?_, fun _ => ⟨hin, ?_⟩⟩
      · rw [zi_le, zi_n (by omega), zi_n (by omega)]; omega
      rw [zi_c (by omega)]
      have ej : (if j < j ∧ og j = og b then og a else og j) = og j := if_neg (by omega)
      show (¬ (if j < j ∧ og j = og b then og a else og j) = og b → _) ∧ ((if j < j ∧ og j = og b then og a else og j) = og b → _)
      rw [ej]
      refine ⟨fun z => next _ ?_, fun z => ⟨hin, next _ ?_⟩⟩
      · funext i
        by_cases hi : i = j
        · subst hi; rw [if_neg (fun q => z q.2), if_neg (fun q => z q.2)]
        · by_cases h2 : i < j ∧ og i = og b
          · rw [if_pos h2, if_pos ⟨by omega, h2.2⟩]
          · rw [if_neg h2, if_neg (fun q => h2 ⟨by omega, q.2⟩)]
      · funext i
        by_cases hi : i = j
        · subst hi; rw [up_s, if_pos ⟨by omega, z⟩]
        · rw [up_n _ _ hi]
          by_cases h2 : i < j ∧ og i = og b
          · rw [if_pos h2, if_pos ⟨by omega, h2.2⟩]
          · rw [if_neg h2, if_neg (fun q => h2 ⟨by omega, q.2⟩)]
  have L : zp_Mo_join_27 (nI a) (nI b) (nI no) Q 1 th og := by
    refine zm_goes1 (fun e => z10 e) (fun _ => zg1 ⟨zi_in (by omega) (by omega), fun y7 h7 => ⟨zi_in (by omega) (by omega), fun y8 h8 => ⟨no + 1, ?_⟩⟩⟩)
    rw [zi_c (by omega)] at h7 h8
    subst h7; subst h8
    have z := loop no 0 (by omega) 0 zi_0
    have ef : (fun i => if i < 0 ∧ og i = og b then og a else og i) = og := by
      funext i; rw [if_neg (by omega)]
    rw [ef, zi_n0] at z; exact z
  exact zm_isOrder (by omega) (zb_br (fun z => absurd (zi_rng ha (by omega)) z) (fun _ => zm_isOrder (by omega) (zb_br (fun z => absurd (zi_rng hb (by omega)) z) (fun _ => ⟨fun z => absurd (zi_nn (by omega) (by omega) z) hab, fun _ => L⟩))))
theorem zm_ready_x {Q : Int32 → Int32 → Prop} {og io fi cf cv cg cc ui ud uk : Nat → Int32} {p n un t th : Int32} {no : Nat} (hno : no ≤ 30) (h : ¬ (0 ≤ p.toInt ∧ p.toInt < no)) (x : Q 0 1) : zp_Mo_ready p th t (nI no) og n io fi cc cf cv cg un ui ud uk Q :=
  zm_isOrder (by omega) (zm_goes1 (fun _ => zg0 ⟨rfl, x⟩) (fun e => absurd (zb_f h) e))
theorem zm_ready {Q : Int32 → Int32 → Prop} {og io fi cf cv cg cc ui ud uk : Nat → Int32} {un t th : Int32} {o no n : Nat} {ST : Nat → Int32} (hno : no ≤ 30) (ho : o < no) (hn : n ≤ 60) (hio : ∀ j, j < n → ∃ q, q < 30 ∧ io j = nI q)
    (hS : ∀ j, j < n → ∀ R : Int32 → Prop, R (ST j) → zp_Mo_stateOn (nI j) t fi cc cf cv cg un ui ud uk R)
    (h1 : (∀ j, j < n → og o = og (io j).toNatClampNeg → 2 ≤ (ST j).toInt) → Q 1 0) (h0 : (∃ j, j < n ∧ og o = og (io j).toNatClampNeg ∧ (ST j).toInt < 2) → Q 0 0) : zp_Mo_ready (nI o) th t (nI no) og (nI n) io fi cc cf cv cg un ui ud uk Q := by
  have hr := zi_rng ho (by omega : no < 2147483648)
  have e2 : (2 : Int32).toInt = 2 := by decide
  have loop : ∀ k j : Nat, j + k = n → (∀ a, a < j → og o = og (io a).toNatClampNeg → 2 ≤ (ST a).toInt) → zp_Mo_ready_19 (nI o) t og (nI n) io fi cc cf cv cg un ui ud uk Q 0 (k + 1) (nI j) := by
    intro k
    induction k with
    | zero =>
      intro j hj hv
      obtain rfl : j = n := by omega
      exact ⟨fun _ => ⟨rfl, h1 hv⟩, fun z => absurd (Int32.le_refl _) z⟩
    | succ k ih =>
      intro j hj hv
      have step : (og o = og (io j).toNatClampNeg → 2 ≤ (ST j).toInt) → zp_Mo_ready_62 (zp_Mo_ready_19 (nI o) t og (nI n) io fi cc cf cv cg un ui ud uk Q 0 (k + 1)) (nI j) := by
        intro hw
        show zp_Mo_ready_19 (nI o) t og (nI n) io fi cc cf cv cg un ui ud uk Q 0 (k + 1) (nI j + 1)
        rw [zi_n1]
        refine ih (j + 1) (by omega) (fun a ha => ?_)
        by_cases haj : a = j
        · subst haj; exact hw
        · exact hv a (by omega)
      obtain ⟨q, hq, eq⟩ := hio j (by omega)
      refine ⟨fun z => absurd z ?_, fun _ => ⟨zi_in (by omega) (by omega), ?_⟩⟩
      · rw [zi_le, zi_n (by omega), zi_n (by omega)]; omega
      rw [zi_c (n := j) (by omega), zi_c (n := o) (by omega)]
      refine ⟨by rw [eq]; exact zi_in hq (by omega), zi_in (by omega) (by omega), fun z => step (fun y => absurd y.symm z), fun z => hS j (by omega) _ ⟨fun y => step (fun _ => ?_), fun y => ⟨rfl, h0 ⟨j, by omega, z.symm, ?_⟩⟩⟩⟩
      · rw [zi_le, e2] at y; exact y
      · rw [zi_le, e2] at y; omega
  have z := loop n 0 (by omega) (fun a ha => absurd ha (Nat.not_lt_zero a))
  rw [zi_n0] at z
  exact zm_isOrder (by omega) (zm_goes1 (fun e => absurd hr (zb_0 e)) (fun _ => zg1 ⟨_, z⟩))
theorem zm_late {Q : Int32 → Int32 → Prop} {fi cf cv cg cc ui ud uk : Nat → Int32} {un t p th : Int32} {n : Nat} {ST : Nat → Int32} (hn : n ≤ 60) (x : p.toInt < 0 → Q 0 1)
    (hS : ∀ j, j < n → ∀ R : Int32 → Prop, R (ST j) → zp_Mo_stateOn (nI j) t fi cc cf cv cg un ui ud uk R)
    (h1 : 0 ≤ p.toInt → ∀ j, j < n → ST j = 1 → zs_m (yl_t ST) j = p.toInt → Q (nI j) 0) (h0 : 0 ≤ p.toInt → zs_m (yl_t ST) n ≤ p.toInt → Q (-1) 0) : zp_Mo_late p th t (nI n) fi cc cf cv cg un ui ud uk Q := by
  have hz : ∀ j, 0 ≤ yl_t ST j ∧ yl_t ST j ≤ 1 := fun j => by unfold yl_t; split <;> omega
  refine ⟨fun z => zm_goes1 (fun _ => zg0 (x (by rw [zi_lt, zi_0] at z; exact z))) (fun e => absurd rfl e), fun z => zm_goes1 (fun e => z10 e) (fun _ => zg1 ?_)⟩
  have hp : 0 ≤ p.toInt := by rw [zi_lt, zi_0] at z; omega
  have loop : ∀ k j : Nat, j + k = n → ∀ v : Int32, v.toInt = p.toInt - zs_m (yl_t ST) j → 0 ≤ v.toInt → zp_Mo_late_25 t (nI n) fi cc cf cv cg un ui ud uk Q 0 (k + 1) v (nI j) := by
    intro k
    induction k with
    | zero =>
      intro j hj v hv hle
      obtain rfl : j = n := by omega
      exact ⟨fun _ => h0 hp (by omega), fun z => absurd (Int32.le_refl _) z⟩
    | succ k ih =>
      intro j hj v hv hle
      have hs := zs_b j (fun i _ => hz i)
      have step : ∀ w : Int32, w.toInt = p.toInt - (zs_m (yl_t ST) j + yl_t ST j) → 0 ≤ w.toInt → zp_Mo_late_58 (zp_Mo_late_25 t (nI n) fi cc cf cv cg un ui ud uk Q 0 (k + 1)) w (nI j) := by
        intro w hw hwp
        show zp_Mo_late_25 t (nI n) fi cc cf cv cg un ui ud uk Q 0 (k + 1) w (nI j + 1)
        rw [zi_n1]
        exact ih (j + 1) (by omega) w hw hwp
      have e1 : (-1 : Int32).toInt = -1 := by decide
      refine ⟨fun z => absurd z ?_, fun _ => hS j (by omega) _ ⟨fun y => ⟨fun w => ?_, fun w => h1 hp j (by omega) y ?_⟩, fun y => step v ?_ hle⟩⟩
      · rw [zi_le, zi_n (by omega), zi_n (by omega)]; omega
      · have w' : v.toInt ≠ 0 := fun q => w (zi_eq.mpr (by rw [zi_0]; exact q))
        have hvl := Int32.toInt_lt v
        have ev : (v + (-1)).toInt = v.toInt - 1 := by
          rw [zi_add (by rw [e1]; omega) (by rw [e1]; omega), e1]; omega
        refine step _ ?_ (by rw [ev]; omega)
        rw [ev, hv, yl_t, if_pos y]; omega
      · rw [w, zi_0] at hv; omega
      · rw [hv, yl_t, if_neg y, Int.add_zero]
  have z := loop n 0 (by omega) p (by show _ = _ - (0 : Int); omega) hp
  rw [zi_n0] at z
  exact ⟨_, z⟩
theorem zm_tick {Q : Int32 → Int32 → Int32 → Prop} {p t th : Int32} (ht : 0 ≤ t.toInt ∧ t.toInt ≤ 9999) (k : zo3 True ((1 ≤ p.toInt ∧ p.toInt ≤ 1000) ∧ t.toInt + p.toInt ≤ 9999) True False (Q 0 1 t) False (Q (t + p) 0 (t + p))) : zp_Mo_tick p th t Q := by
  have e9 : (9999 : Int32).toInt = 9999 := by decide
  have es : (9999 - t : Int32).toInt = 9999 - t.toInt := by
    rw [zi_sub (by rw [e9]; omega) (by rw [e9]; omega), e9]
  have L0 : ¬ ((1 ≤ p.toInt ∧ p.toInt ≤ 1000) ∧ t.toInt + p.toInt ≤ 9999) → zp_Mo_tick_29 p Q 0 th t := fun h => zm_goes1 (fun _ => zg0 (k.2.1 trivial h)) (fun e => absurd rfl e)
  refine zm_in (zb_br (fun z => L0 (fun q => z q.1)) (fun z => ⟨fun y => L0 (fun q => ?_), fun y => zm_goes1 (fun e => z10 e) (fun _ => zg1 (k.2.2.2 trivial ⟨z, ?_⟩ trivial))⟩))
  · rw [zi_lt, es] at y; omega
  · rw [zi_lt, es] at y; omega
