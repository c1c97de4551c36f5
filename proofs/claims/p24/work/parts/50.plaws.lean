/-! each call through the law's own hands: its number where it is refused, else what is new -/
abbrev zo_ (out : Nat → Int64) (x : Int64) : Nat → Int64 := vp_updL out (0 : Int32).toNatClampNeg x
theorem zo3_map {c2 c3 c4 T R M K T' R' M' K' : Prop} (h : zo3 c2 c3 c4 T R M K) (t : T → T') (r : R → R') (m : M → M') (k : K → K') : zo3 c2 c3 c4 T' R' M' K' :=
  ⟨fun a => t (h.1 a), fun a b => r (h.2.1 a b), fun a b c => m (h.2.2.1 a b c), fun a b c => k (h.2.2.2 a b c)⟩
theorem z_idx {p : Int32} {n : Nat} {G : Prop} (x : ¬ (0 ≤ p.toInt ∧ p.toInt < n) → G) (k : ∀ i, i < n → p = nI i → G) : G := by
  by_cases h : 0 ≤ p.toInt ∧ p.toInt < n
  · obtain ⟨i, h1, h2, h3⟩ := zi_of h.1
    exact k i (by omega) h3
  · exact x h
theorem z_idx6 {p : Int32} {G : Prop} (x : ¬ (0 ≤ p.toInt ∧ p.toInt ≤ 5) → G) (k : ∀ i, i < 6 → p = nI i → G) : G :=
  z_idx (n := 6) (fun z => x (fun q => z (by omega))) k
theorem z_idx10 {p : Int32} {G : Prop} (x : ¬ (0 ≤ p.toInt ∧ p.toInt ≤ 9) → G) (k : ∀ i, i < 10 → p = nI i → G) : G :=
  z_idx (n := 10) (fun z => x (fun q => z (by omega))) k
def zS (fi cf cv cg cc ui ud uk : Nat → Int32) (nu i : Nat) (d : Int32) : Int32 :=
  zt_s (zs_m (zu_d ui ud uk (nI i) d) nu) (zf_on fi cf cv cg cc i 4 d).toInt (zf_on fi cf cv cg cc i 3 d).toInt (zf_on fi cf cv cg cc i 5 d).toInt d.toInt
section ZL
variable {oc od og io ia fi cf cv cg ct cc ui ud uk ut : Nat → Int32} {rb rt rx : Int32} {qi qu : Nat → Int32} {qc : Nat → Int64} {qa al : Nat → Int32} {au : Nat → Int64} {ka kd kk : Nat → Int32} {cap : Int32} {no ni nu nq t : Nat} {out : Nat → Int64}
theorem zS_r {i : Nat} {d : Int32} {Q : Int32 → Prop} (h : zj oc od io ia fi cf cv cg cc ui ud uk ut rb rt rx qi qc qa al au ka kd kk cap no ni nu nq t) (hi : i < ni) (q : Q (zS fi cf cv cg cc ui ud uk nu i d)) : zp_Or_stateOn (nI i) d fi cf cv cg cc ui ud uk ut (nI nu) Q := by
  have hi60 := h.2.2.1.1
  obtain ⟨c, hc20, hc, -⟩ := zj_cnt (i := i) h.2.2.2.2.1
  exact zr_stateOn (by omega) hc hc20 (fun R hR => zj_up h.2.2.2.2.2.1 (by omega) hR) q
theorem zL_order {P : Int32 → (Nat → Int32) → (Nat → Int32) → (Nat → Int32) → Int32 → (Nat → Int64) → Prop} {c d : Int32} (h : zj oc od io ia fi cf cv cg cc ui ud uk ut rb rt rx qi qc qa al au ka kd kk cap no ni nu nq t)
    (x : ¬ (0 ≤ c.toInt ∧ c.toInt ≤ 9) → P 1 oc od og (nI no) out)
    (k : 0 ≤ c.toInt ∧ c.toInt ≤ 9 → zo3 True ((nI t).toInt ≤ d.toInt ∧ d.toInt ≤ 9999) (no < 30) False (P 2 oc od og (nI no) out) (P 3 oc od og (nI no) out) (P 0 (upd oc no c) (upd od no d) (upd og no (nI no)) (nI (no + 1)) (zo_ out (nI no).toInt64))) :
    zp_L_order c d oc od og (nI no) (nI t) out P :=
  zr_order h.2.1.1 (fun z => zX_IRM_I (x z)) (fun z => zo3_map (k z) False.elim zX_IRM_R zX_IRM_M (fun q => ⟨z_01, q⟩))
theorem zL_item {P : Int32 → (Nat → Int32) → (Nat → Int32) → Int32 → (Nat → Int64) → Prop} {p a b c : Int32} (h : zj oc od io ia fi cf cv cg cc ui ud uk ut rb rt rx qi qc qa al au ka kd kk cap no ni nu nq t)
    (x : ¬ (0 ≤ p.toInt ∧ p.toInt < no) → P 1 io fi (nI ni) out)
    (k : ∀ o, o < no → p = nI o → zo3 True ((1 ≤ a.toInt ∧ a.toInt ≤ 100000) ∧ (1 ≤ b.toInt ∧ b.toInt ≤ 100000) ∧ (1 ≤ c.toInt ∧ c.toInt ≤ 100000)) (ni < 60) False (P 2 io fi (nI ni) out) (P 3 io fi (nI ni) out)
      (P 0 (upd io ni (nI o)) (upd (upd (upd (upd fi (6 * ni + 0) a) (6 * ni + 1) b) (6 * ni + 2) c) (6 * ni + 5) (od o)) (nI (ni + 1)) (zo_ out (nI ni).toInt64))) :
    zp_L_item p a b c od (nI no) io fi (nI ni) out P :=
  z_idx (fun z => zr_item_x h.2.1.1 z (zX_IRM_I (x z))) (fun o ho e => by
    subst e
    exact zr_item h.2.1.1 h.2.2.1.1 ho (zo3_map (k o ho rfl) False.elim zX_IRM_R zX_IRM_M (fun q => ⟨z_01, q⟩)))
theorem zL_weights {P : Int32 → (Nat → Int32) → (Nat → Int32) → (Nat → Int32) → (Nat → Int32) → (Nat → Int32) → Prop} {p a b : Int32} (h : zj oc od io ia fi cf cv cg cc ui ud uk ut rb rt rx qi qc qa al au ka kd kk cap no ni nu nq t)
    (x : ¬ (0 ≤ p.toInt ∧ p.toInt < ni) → P 1 cf cv cg ct cc)
    (k : ∀ i c, i < ni → p = nI i → cc i = nI c → c ≤ 20 → zo3 True ((0 ≤ a.toInt ∧ a.toInt ≤ 1000000) ∧ (0 ≤ b.toInt ∧ b.toInt ≤ 1000000) ∧ a.toInt ≤ b.toInt) (c + 2 ≤ 20) False (P 2 cf cv cg ct cc) (P 3 cf cv cg ct cc)
      (P 0 (upd (upd cf (20 * i + c) 3) (20 * i + (c + 1)) 4) (upd (upd cv (20 * i + c) a) (20 * i + (c + 1)) b) (upd (upd cg (20 * i + c) (nI t)) (20 * i + (c + 1)) (nI t)) (upd (upd ct (20 * i + c) (nI t)) (20 * i + (c + 1)) (nI t)) (upd (upd cc i (nI (c + 1))) i (nI (c + 2))))) :
    zp_L_weights p a b (nI ni) cf cv cg ct cc (nI t) P :=
  z_idx (fun z => zr_weights_x h.2.2.1.1 z (zX_IRM_I (x z))) (fun i hi e => by
    subst e
    obtain ⟨c, hc20, hc, -⟩ := zj_cnt (i := i) h.2.2.2.2.1
    exact zr_weights h.2.2.1.1 hi hc hc20 (zo3_map (k i c hi rfl hc hc20) False.elim zX_IRM_R zX_IRM_M (fun q => q)))
theorem zL_agree {P : Int32 → (Nat → Int32) → Prop} {p r : Int32} (h : zj oc od io ia fi cf cv cg cc ui ud uk ut rb rt rx qi qc qa al au ka kd kk cap no ni nu nq t)
    (x : ¬ (0 ≤ p.toInt ∧ p.toInt < ni) → P 1 ia)
    (k : ∀ i, i < ni → p = nI i → zo3 True (1 ≤ r.toInt ∧ r.toInt ≤ 99) True False (P 2 ia) False (P 0 (upd ia i r))) : zp_L_agree p r ia (nI ni) P :=
  z_idx (fun z => zr_agree_x h.2.2.1.1 z (zX_IR_I (x z))) (fun i hi e => by
    subst e
    exact zr_agree h.2.2.1.1 hi (zo3_map (k i hi rfl) False.elim zX_IR_R False.elim (fun q => q)))
theorem zL_change {P : Int32 → (Nat → Int32) → (Nat → Int32) → (Nat → Int32) → (Nat → Int32) → (Nat → Int32) → Prop} {p q a b r : Int32} (h : zj oc od io ia fi cf cv cg cc ui ud uk ut rb rt rx qi qc qa al au ka kd kk cap no ni nu nq t)
    (x : ¬ ((0 ≤ p.toInt ∧ p.toInt < ni) ∧ 0 ≤ q.toInt ∧ q.toInt ≤ 5) → P 1 cf cv cg ct cc)
    (k : ∀ i f c, i < ni → p = nI i → f < 6 → q = nI f → cc i = nI c → c ≤ 20 → zo3 (2 < f ∨ ut i = 0 ∨ (ia i ≠ 0 ∧ ia i = r)) (zv_ok f a.toInt (nI t).toInt ∧ 0 ≤ b.toInt ∧ b.toInt ≤ 9999)
      (((f = 3 → a.toInt ≤ (zf_on fi cf cv cg cc i 4 b).toInt) ∧ (f = 4 → (zf_on fi cf cv cg cc i 3 b).toInt ≤ a.toInt)) ∧ c + 1 ≤ 20) (P 2 cf cv cg ct cc) (P 3 cf cv cg ct cc) (P 4 cf cv cg ct cc)
      (P 0 (upd cf (20 * i + c) (nI f)) (upd cv (20 * i + c) a) (upd cg (20 * i + c) b) (upd ct (20 * i + c) (nI t)) (upd cc i (nI (c + 1))))) :
    zp_L_change p q a b r ia fi (nI ni) cf cv cg ct cc ut (nI t) P :=
  z_idx (fun z => zr_change_x h.2.2.1.1 (fun w => z w.1) (zX_ITRM_I (x (fun w => z w.1)))) (fun i hi e => z_idx6 (fun z => zr_change_x h.2.2.1.1 (fun w => z w.2) (zX_ITRM_I (x (fun w => z w.2)))) (fun f hf e2 => by
    subst e; subst e2
    obtain ⟨c, hc20, hc, -⟩ := zj_cnt (i := i) h.2.2.2.2.1
    exact zr_change h.2.2.1.1 hi hf hc hc20 (zo3_map (k i f c hi rfl hf rfl hc hc20) zX_ITRM_T zX_ITRM_R zX_ITRM_M (fun q => q))))
theorem zL_field {P : Int32 → (Nat → Int64) → Prop} {p q d : Int32} (h : zj oc od io ia fi cf cv cg cc ui ud uk ut rb rt rx qi qc qa al au ka kd kk cap no ni nu nq t)
    (x : ¬ ((0 ≤ p.toInt ∧ p.toInt < ni) ∧ 0 ≤ q.toInt ∧ q.toInt ≤ 5) → P 1 out)
    (k : ∀ i f, i < ni → p = nI i → f < 6 → q = nI f → zo3 True (0 ≤ d.toInt ∧ d.toInt ≤ 9999) True False (P 2 out) False (P 0 (zo_ out (zf_on fi cf cv cg cc i f d).toInt64))) :
    zp_L_field p q d fi (nI ni) cf cv cg cc out P :=
  z_idx (fun z => zr_field_x h.2.2.1.1 (fun w => z w.1) (zX_IR_I (x (fun w => z w.1)))) (fun i hi e => z_idx6 (fun z => zr_field_x h.2.2.1.1 (fun w => z w.2) (zX_IR_I (x (fun w => z w.2)))) (fun f hf e2 => by
    subst e; subst e2
    obtain ⟨c, hc20, hc, -⟩ := zj_cnt (i := i) h.2.2.2.2.1
    exact zr_field h.2.2.1.1 hi hf hc hc20 (zo3_map (k i f hi rfl hf rfl) False.elim zX_IR_R False.elim (fun q => ⟨z_01, q⟩))))
theorem zL_history {P : Int32 → (Nat → Int64) → Prop} {p j w : Int32} (h : zj oc od io ia fi cf cv cg cc ui ud uk ut rb rt rx qi qc qa al au ka kd kk cap no ni nu nq t)
    (x : ¬ (0 ≤ p.toInt ∧ p.toInt < ni) → P 1 out)
    (y : ∀ i c, i < ni → p = nI i → cc i = nI c → c ≤ 20 → ¬ ((0 ≤ j.toInt ∧ j.toInt < c) ∧ 0 ≤ w.toInt ∧ w.toInt ≤ 3) → P 1 out)
    (k : ∀ i c m, i < ni → p = nI i → cc i = nI c → c ≤ 20 → m < c → j = nI m → 0 ≤ w.toInt ∧ w.toInt ≤ 3 → P 0 (zo_ out (if w = 0 then cf (20 * i + m) else if w = 1 then cv (20 * i + m) else if w = 2 then cg (20 * i + m) else ct (20 * i + m)).toInt64)) :
    zp_L_history p j w (nI ni) cf cv cg ct cc out P :=
  z_idx (fun z => zr_history_x h.2.2.1.1 z (zX_I_I (x z))) (fun i hi e => by
    subst e
    obtain ⟨c, hc20, hc, -⟩ := zj_cnt (i := i) h.2.2.2.2.1
    refine z_idx (p := j) (n := c) (fun z => zr_history_y h.2.2.1.1 hi hc hc20 (fun v => z v.1) (zX_I_I (y i c hi rfl hc hc20 (fun v => z v.1)))) (fun m hm e2 => ?_)
    subst e2
    by_cases hw : 0 ≤ w.toInt ∧ w.toInt ≤ 3
    · exact zr_history h.2.2.1.1 hi hc hc20 hm hw ⟨z_01, k i c m hi rfl hc hc20 hm rfl hw⟩
    · exact zr_history_y h.2.2.1.1 hi hc hc20 (fun v => hw v.2) (zX_I_I (y i c hi rfl hc hc20 (fun v => hw v.2))))
theorem zL_split {P : Int32 → (Nat → Int32) → (Nat → Int32) → Int32 → (Nat → Int32) → (Nat → Int32) → (Nat → Int32) → (Nat → Int32) → (Nat → Int32) → (Nat → Int64) → Prop} {p q : Int32} (h : zj oc od io ia fi cf cv cg cc ui ud uk ut rb rt rx qi qc qa al au ka kd kk cap no ni nu nq t)
    (x : ¬ (0 ≤ p.toInt ∧ p.toInt < ni) → P 1 io fi (nI ni) cf cv cg ct cc out)
    (k : ∀ i c, i < ni → p = nI i → cc i = nI c → c ≤ 20 → zo3 (ut i = 0) (1 ≤ q.toInt ∧ q.toInt ≤ (zf_on fi cf cv cg cc i 4 (nI t)).toInt) (ni < 60 ∧ c + 2 ≤ 20) (P 2 io fi (nI ni) cf cv cg ct cc out) (P 3 io fi (nI ni) cf cv cg ct cc out) (P 4 io fi (nI ni) cf cv cg ct cc out)
      (∀ y : Int32, y = (if q < zf_on fi cf cv cg cc i 3 (nI t) then q else zf_on fi cf cv cg cc i 3 (nI t)) → P 0 (upd io ni (io i)) (upd (upd (zf_cp fi cf cv cg cc i ni 6 (nI t)) (6 * ni + 3) y) (6 * ni + 4) q) (nI (ni + 1))
        (upd (upd cf (20 * i + c) 4) (20 * i + (c + 1)) 3) (upd (upd cv (20 * i + c) (zf_on fi cf cv cg cc i 4 (nI t) - q)) (20 * i + (c + 1)) (zf_on fi cf cv cg cc i 3 (nI t) - y)) (upd (upd cg (20 * i + c) (nI t)) (20 * i + (c + 1)) (nI t)) (upd (upd ct (20 * i + c) (nI t)) (20 * i + (c + 1)) (nI t)) (upd (upd cc i (nI (c + 1))) i (nI (c + 2))) (zo_ out (nI ni).toInt64))) :
    zp_L_split p q io fi (nI ni) cf cv cg ct cc ut (nI t) out P :=
  z_idx (fun z => zr_split_x h.2.2.1.1 z (zX_ITRM_I (x z))) (fun i hi e => by
    subst e
    obtain ⟨c, hc20, hc, -⟩ := zj_cnt (i := i) h.2.2.2.2.1
    exact zr_split h.2.2.1.1 hi hc hc20 (zo3_map (k i c hi rfl hc hc20) zX_ITRM_T zX_ITRM_R zX_ITRM_M (fun q y hy => ⟨z_01, q y hy⟩)))
theorem zL_made {P : Int32 → (Nat → Int32) → (Nat → Int32) → (Nat → Int32) → (Nat → Int32) → Int32 → (Nat → Int64) → Prop} {p q : Int32} (h : zj oc od io ia fi cf cv cg cc ui ud uk ut rb rt rx qi qc qa al au ka kd kk cap no ni nu nq t)
    (x : ¬ (0 ≤ p.toInt ∧ p.toInt < ni) → P 1 ui ud uk ut (nI nu) out)
    (k : ∀ i, i < ni → p = nI i → zo3 True (1 ≤ q.toInt ∧ q.toInt ≤ 1000000) ((ut i).toInt + q.toInt ≤ 1000000000 ∧ nu < 200) False (P 2 ui ud uk ut (nI nu) out) (P 3 ui ud uk ut (nI nu) out)
      (P 0 (upd ui nu (nI i)) (upd ud nu (nI t)) (upd uk nu q) (upd ut i (ut i + q)) (nI (nu + 1)) (zo_ out (ut i + q).toInt64))) :
    zp_L_made p q (nI ni) ui ud uk ut (nI nu) (nI t) out P :=
  z_idx (fun z => zr_made_x h.2.2.1.1 z (zX_IRM_I (x z))) (fun i hi e => by
    subst e
    exact zr_made h.2.2.1.1 hi h.2.2.2.2.2.1.1 (zo3_map (k i hi rfl) False.elim zX_IRM_R zX_IRM_M (fun q => ⟨z_01, q⟩)))
theorem zL_state {P : Int32 → (Nat → Int64) → Prop} {p d : Int32} (h : zj oc od io ia fi cf cv cg cc ui ud uk ut rb rt rx qi qc qa al au ka kd kk cap no ni nu nq t)
    (x : ¬ (0 ≤ p.toInt ∧ p.toInt < ni) → P 1 out)
    (k : ∀ i, i < ni → p = nI i → zo3 True (0 ≤ d.toInt ∧ d.toInt ≤ 9999) True False (P 2 out) False (P 0 (zo_ out (zS fi cf cv cg cc ui ud uk nu i d).toInt64))) :
    zp_L_state p d fi (nI ni) cf cv cg cc ui ud uk ut (nI nu) out P :=
  z_idx (fun z => zr_state_x h.2.2.1.1 z (zX_IR_I (x z))) (fun i hi e => by
    subst e
    exact zr_state h.2.2.1.1 hi (zo3_map (k i hi rfl) False.elim zX_IR_R False.elim (fun q => zS_r h hi ⟨z_01, q⟩)))
theorem zL_rest {P : Int32 → (Nat → Int64) → Prop} {p : Int32} (h : zj oc od io ia fi cf cv cg cc ui ud uk ut rb rt rx qi qc qa al au ka kd kk cap no ni nu nq t)
    (x : ¬ (0 ≤ p.toInt ∧ p.toInt < ni) → P 1 out)
    (k : ∀ i, i < ni → p = nI i → P 0 (zo_ out (if 0 < (zf_on fi cf cv cg cc i 3 (nI t) - ut i) then (zf_on fi cf cv cg cc i 3 (nI t) - ut i) else 0).toInt64)) :
    zp_L_rest p fi (nI ni) cf cv cg cc ut (nI t) out P :=
  z_idx (fun z => zr_rest_x h.2.2.1.1 z (zX_I_I (x z))) (fun i hi e => by
    subst e
    obtain ⟨c, hc20, hc, -⟩ := zj_cnt (i := i) h.2.2.2.2.1
    exact zr_rest h.2.2.1.1 hi hc hc20 ⟨z_01, k i hi rfl⟩)
theorem zL_costs {P : Int32 → Int32 → Int32 → Int32 → Prop} {a b c rb' rt' rx' : Int32}
    (k : zo3 True ((0 ≤ a.toInt ∧ a.toInt ≤ 100000) ∧ (0 ≤ b.toInt ∧ b.toInt ≤ 100000) ∧ (0 ≤ c.toInt ∧ c.toInt ≤ 100000)) True False (P 1 rb' rt' rx') False (P 0 a b c)) : zp_L_costs a b c rb' rt' rx' P :=
  zr_costs (zo3_map k False.elim zX_R_R False.elim (fun q => q))
theorem zL_quote {P : Int32 → (Nat → Int32) → (Nat → Int32) → (Nat → Int64) → Int32 → (Nat → Int64) → Prop} {p q : Int32} (h : zj oc od io ia fi cf cv cg cc ui ud uk ut rb rt rx qi qc qa al au ka kd kk cap no ni nu nq t)
    (x : ¬ (0 ≤ p.toInt ∧ p.toInt < ni) → P 1 qi qu qc (nI nq) out)
    (k : ∀ i, i < ni → p = nI i → zo3 True ((nI t).toInt ≤ q.toInt ∧ q.toInt ≤ 9999) (nq < 60) False (P 2 qi qu qc (nI nq) out) (P 3 qi qu qc (nI nq) out)
      (P 0 (upd qi nq (nI i)) (upd qu nq q) (vp_updL qc nq (zq_c (zf_on fi cf cv cg cc i 4 (nI t)) (zf_on fi cf cv cg cc i 1 (nI t)) rb rt rx)) (nI (nq + 1)) (zo_ out (nI nq).toInt64))) :
    zp_L_quote p q fi (nI ni) cf cv cg cc rb rt rx qi qu qc (nI nq) (nI t) out P :=
  z_idx (fun z => zr_quote_x h.2.2.1.1 z (zX_IRM_I (x z))) (fun i hi e => by
    subst e
    obtain ⟨c, hc20, hc, -⟩ := zj_cnt (i := i) h.2.2.2.2.1
    exact zr_quote h.2.2.1.1 hi hc hc20 h.2.2.2.2.2.2.2.1.1 (zo3_map (k i hi rfl) False.elim zX_IRM_R zX_IRM_M (fun q => ⟨z_01, q⟩)))
theorem zL_quoteAt {P : Int32 → (Nat → Int64) → Prop} {p w : Int32} (h : zj oc od io ia fi cf cv cg cc ui ud uk ut rb rt rx qi qc qa al au ka kd kk cap no ni nu nq t)
    (x : ¬ ((0 ≤ p.toInt ∧ p.toInt < nq) ∧ 0 ≤ w.toInt ∧ w.toInt ≤ 2) → P 1 out)
    (k : ∀ j, j < nq → p = nI j → 0 ≤ w.toInt ∧ w.toInt ≤ 2 → P 0 (zo_ out (if w = 0 then qi j else if w = 1 then qu j else if qa j = 0 then 0 else 1).toInt64)) :
    zp_L_quoteAt p w qi qu qa (nI nq) out P :=
  z_idx (fun z => zr_quoteAt_x h.2.2.2.2.2.2.2.1.1 (fun v => z v.1) (zX_I_I (x (fun v => z v.1)))) (fun j hj e => by
    subst e
    by_cases hw : 0 ≤ w.toInt ∧ w.toInt ≤ 2
    · exact zr_quoteAt h.2.2.2.2.2.2.2.1.1 hj hw ⟨z_01, k j hj rfl hw⟩
    · exact zr_quoteAt_x h.2.2.2.2.2.2.2.1.1 (fun v => hw v.2) (zX_I_I (x (fun v => hw v.2))))
theorem zL_price {P : Int32 → (Nat → Int64) → Prop} {p : Int32} (h : zj oc od io ia fi cf cv cg cc ui ud uk ut rb rt rx qi qc qa al au ka kd kk cap no ni nu nq t)
    (x : ¬ (0 ≤ p.toInt ∧ p.toInt < nq) → P 1 out) (k : ∀ j, j < nq → p = nI j → P 0 (zo_ out (qc j))) : zp_L_price p qc (nI nq) out P :=
  z_idx (fun z => zr_price_x h.2.2.2.2.2.2.2.1.1 z (zX_I_I (x z))) (fun j hj e => by
    subst e
    exact zr_price h.2.2.2.2.2.2.2.1.1 hj ⟨z_01, k j hj rfl⟩)
theorem zL_credit {P : Int32 → (Nat → Int32) → Prop} {p v : Int32}
    (x : ¬ (0 ≤ p.toInt ∧ p.toInt ≤ 9) → P 1 al) (k : ∀ c, c < 10 → p = nI c → zo3 True (0 ≤ v.toInt ∧ v.toInt ≤ 2000000000) True False (P 2 al) False (P 0 (upd al c v))) : zp_L_credit p v al P :=
  z_idx10 (fun z => zr_credit_x z (zX_IR_I (x z))) (fun c hc e => by
    subst e
    exact zr_credit hc (zo3_map (k c hc rfl) False.elim zX_IR_R False.elim (fun q => q)))
theorem zL_accept {P : Int32 → (Nat → Int32) → (Nat → Int64) → (Nat → Int64) → Prop} {p : Int32} (h : zj oc od io ia fi cf cv cg cc ui ud uk ut rb rt rx qi qc qa al au ka kd kk cap no ni nu nq t)
    (x : ¬ (0 ≤ p.toInt ∧ p.toInt < nq) → P 1 qa au out)
    (k : ∀ j i o c, j < nq → p = nI j → i < ni → qi j = nI i → o < no → io i = nI o → c < 10 → oc o = nI c →
      zo3 (qa j = 0 ∧ (nI t).toInt ≤ (qu j).toInt) True ((au c + qc j).toInt ≤ (al c).toInt) (P 2 qa au out) False (P 3 qa au out) (P 0 (upd qa j 1) (vp_updL au c (au c + qc j)) (zo_ out (au c + qc j)))) :
    zp_L_accept p oc io qi qu qc qa (nI nq) al au (nI t) out P :=
  z_idx (fun z => zr_accept_x h.2.2.2.2.2.2.2.1.1 z (zX_ITM_I (x z))) (fun j hj e => by
    subst e
    have h30 := h.2.1.1
    have h60 := h.2.2.1.1
    obtain ⟨i, hi, ei⟩ := h.2.2.2.2.2.2.2.1.2.1 j hj
    obtain ⟨o, ho, eo⟩ := h.2.2.1.2.1 i hi
    have hcb := h.2.1.2.1 o ho
    obtain ⟨c, hc1, -, ec⟩ := zi_of hcb.1
    have hc : c < 10 := by omega
    exact zr_accept h.2.2.2.2.2.2.2.1.1 hj (by omega) ei (by omega) eo hc ec (zo3_map (k j i o c hj rfl hi ei ho eo hc ec) zX_ITM_T False.elim zX_ITM_M (fun q => ⟨z_01, q⟩)))
theorem zL_capacity {P : Int32 → Int32 → Prop} {p : Int32} (h : zj oc od io ia fi cf cv cg cc ui ud uk ut rb rt rx qi qc qa al au ka kd kk cap no ni nu nq t)
    (k : zo3 True (0 ≤ p.toInt ∧ p.toInt ≤ 100000000) (∀ j, j < 60 → ka j ≠ 0 → zk_s ka kd kk (kd j) ≤ p.toInt) False (P 1 cap) (P 2 cap) (P 0 p)) : zp_L_capacity p ka kd kk cap P :=
  zr_capacity (zj_ok h.2.2.2.2.2.2.2.2.2) (zo3_map k False.elim zX_RM_R zX_RM_M (fun q => q))
theorem zL_reserve {P : Int32 → (Nat → Int32) → (Nat → Int32) → (Nat → Int32) → (Nat → Int64) → Prop} {p : Int32} (h : zj oc od io ia fi cf cv cg cc ui ud uk ut rb rt rx qi qc qa al au ka kd kk cap no ni nu nq t)
    (x : ¬ (0 ≤ p.toInt ∧ p.toInt < ni) → P 1 ka kd kk out)
    (x2 : ∀ i, i < ni → p = nI i → ka i ≠ 0 → P 2 ka kd kk out)
    (x4 : ∀ i l, i < ni → p = nI i → ka i = 0 → l ≤ 9999 → zf_on fi cf cv cg cc i 5 (nI t) = nI l → (∀ e : Nat, t ≤ e → e ≤ l → cap.toInt < zk_s ka kd kk (nI e) + (zf_on fi cf cv cg cc i 4 (nI t)).toInt) → P 3 ka kd kk out)
    (k : ∀ i l d, i < ni → p = nI i → ka i = 0 → l ≤ 9999 → zf_on fi cf cv cg cc i 5 (nI t) = nI l → t ≤ d → d ≤ l → zk_s ka kd kk (nI d) + (zf_on fi cf cv cg cc i 4 (nI t)).toInt ≤ cap.toInt →
      (∀ e : Nat, d < e → e ≤ l → cap.toInt < zk_s ka kd kk (nI e) + (zf_on fi cf cv cg cc i 4 (nI t)).toInt) → P 0 (upd ka i 1) (upd kd i (nI d)) (upd kk i (zf_on fi cf cv cg cc i 4 (nI t))) (zo_ out (nI d).toInt64)) :
    zp_L_reserve p fi (nI ni) cf cv cg cc ka kd kk cap (nI t) out P :=
  z_idx (fun z => zr_reserve_x h.2.2.1.1 z (zX_ITM_I (x z))) (fun i hi e => by
    subst e
    obtain ⟨c, hc20, hc, -⟩ := zj_cnt (i := i) h.2.2.2.2.1
    have h4 := zj_w4 (zj_on (f := 4) (d := nI t) h.2.2.1 h.2.2.2.2.1 hi (by omega)) (Or.inr rfl)
    have h5 := zj_w5 (zj_on (f := 5) (d := nI t) h.2.2.1 h.2.2.2.2.1 hi (by omega))
    obtain ⟨l, hl1, -, el⟩ := zi_of h5.1
    have hl : l ≤ 9999 := by omega
    exact zr_reserve h.2.2.1.1 hi hc hc20 (zj_ok h.2.2.2.2.2.2.2.2.2) h4 h.2.2.2.2.2.2.2.2.2.2 h.1 hl el (fun z => zX_ITM_T (x2 i hi rfl z)) (fun z y => zX_ITM_M (x4 i l hi rfl z hl el y)) (fun z d a1 a2 a3 a4 => ⟨z_01, k i l d hi rfl z hl el a1 a2 a3 a4⟩))
theorem zL_join {P : Int32 → (Nat → Int32) → (Nat → Int64) → Prop} {a b : Int32} (h : zj oc od io ia fi cf cv cg cc ui ud uk ut rb rt rx qi qc qa al au ka kd kk cap no ni nu nq t)
    (x : ¬ ((0 ≤ a.toInt ∧ a.toInt < no) ∧ (0 ≤ b.toInt ∧ b.toInt < no) ∧ a ≠ b) → P 1 og out)
    (k : ∀ u v, u < no → a = nI u → v < no → b = nI v → u ≠ v → ∀ r : Int32, r.toInt = zs_m (zg_t (zg_m og u v no) u) no → P 0 (zg_m og u v no) (zo_ out r.toInt64)) : zp_L_join a b og (nI no) out P :=
  z_idx (fun z => zr_join_x h.2.1.1 (fun w => z w.1) (zX_I_I (x (fun w => z w.1)))) (fun u hu e => z_idx (fun z => zr_join_x h.2.1.1 (fun w => z w.2.1) (zX_I_I (x (fun w => z w.2.1)))) (fun v hv e2 => by
    by_cases huv : u = v
    · subst e; subst e2; subst huv
      exact zr_join_x h.2.1.1 (fun w => w.2.2 rfl) (zX_I_I (x (fun w => w.2.2 rfl)))
    · subst e; subst e2
      exact zr_join h.2.1.1 hu hv huv (fun r hr => ⟨z_01, k u v hu rfl hv rfl huv r hr⟩)))
theorem zL_ready {P : Int32 → (Nat → Int64) → Prop} {p : Int32} (h : zj oc od io ia fi cf cv cg cc ui ud uk ut rb rt rx qi qc qa al au ka kd kk cap no ni nu nq t)
    (x : ¬ (0 ≤ p.toInt ∧ p.toInt < no) → P 1 out)
    (k1 : ∀ o, o < no → p = nI o → (∀ j, j < ni → og o = og (io j).toNatClampNeg → 2 ≤ (zS fi cf cv cg cc ui ud uk nu j (nI t)).toInt) → P 0 (zo_ out 1))
    (k0 : ∀ o, o < no → p = nI o → (∃ j, j < ni ∧ og o = og (io j).toNatClampNeg ∧ (zS fi cf cv cg cc ui ud uk nu j (nI t)).toInt < 2) → P 0 (zo_ out 0)) :
    zp_L_ready p og (nI no) io fi (nI ni) cf cv cg cc ui ud uk ut (nI nu) (nI t) out P :=
  z_idx (fun z => zr_ready_x h.2.1.1 z (zX_I_I (x z))) (fun o ho e => by
    subst e
    have h30 := h.2.1.1
    exact zr_ready h.2.1.1 ho h.2.2.1.1 (fun j hj => by obtain ⟨q, h1, h2⟩ := h.2.2.1.2.1 j hj; exact ⟨q, by omega, h2⟩) (fun j hj Q q => zS_r h hj q)
      (fun z => ⟨fun y => absurd y (by decide), fun _ => ⟨z_01, k1 o ho rfl z⟩⟩) (fun z => ⟨fun _ => ⟨z_01, k0 o ho rfl z⟩, fun y => absurd rfl y⟩))
theorem zL_late {P : Int32 → (Nat → Int64) → Prop} {p : Int32} (h : zj oc od io ia fi cf cv cg cc ui ud uk ut rb rt rx qi qc qa al au ka kd kk cap no ni nu nq t)
    (x : p.toInt < 0 → P 1 out)
    (k1 : 0 ≤ p.toInt → ∀ j, j < ni → zS fi cf cv cg cc ui ud uk nu j (nI t) = 1 → zs_m (yl_t (fun i => zS fi cf cv cg cc ui ud uk nu i (nI t))) j = p.toInt → P 0 (zo_ out (nI j).toInt64))
    (k0 : 0 ≤ p.toInt → zs_m (yl_t (fun i => zS fi cf cv cg cc ui ud uk nu i (nI t))) ni ≤ p.toInt → P 0 (zo_ out (-1 : Int32).toInt64)) :
    zp_L_late p fi (nI ni) cf cv cg cc ui ud uk ut (nI nu) (nI t) out P :=
  zr_late h.2.2.1.1 (fun z => zX_I_I (x z)) (fun j hj Q q => zS_r h hj q) (fun a j hj b c => ⟨z_01, k1 a j hj b c⟩) (fun a b => ⟨z_01, k0 a b⟩)
theorem zL_tick {P : Int32 → Int32 → (Nat → Int64) → Prop} {p : Int32} (h : zj oc od io ia fi cf cv cg cc ui ud uk ut rb rt rx qi qc qa al au ka kd kk cap no ni nu nq t)
    (k : zo3 True ((1 ≤ p.toInt ∧ p.toInt ≤ 1000) ∧ (nI t).toInt + p.toInt ≤ 9999) True False (P 1 (nI t) out) False (P 0 (nI t + p) (zo_ out (nI t + p).toInt64))) : zp_L_tick p (nI t) out P := by
  have e : (nI t).toInt = t := zi_n (by have := h.1; omega)
  have ht := h.1
  exact zr_tick (by rw [e]; omega) (zo3_map k False.elim zX_R_R False.elim (fun q => ⟨z_01, q⟩))
end ZL
