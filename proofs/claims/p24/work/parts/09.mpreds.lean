def zp_Mo_thrown (k_thrown : Int32) (P : Int32 → Prop) : Prop :=
 P k_thrown
def zp_Mo_in (p1 : Int32) (p2 : Int32) (p3 : Int32) (P : Int32 → Prop) : Prop :=
 (p1 < p2 →
  narrow .boolean (.int 0) = .int 0 ∧ P 0) ∧
 (¬ p1 < p2 →
  (p3 < p1 →
   narrow .boolean (.int 0) = .int 0 ∧ P 0) ∧
  (¬ p3 < p1 →
   narrow .boolean (.int 1) = .int 1 ∧ P 1))
def zp_Mo_goes_35 (P : Int32 → Int32 → Prop) (s1 : Int32) : Prop :=
  (¬ s1 = 0 →
   narrow .boolean (.int 0) = .int 0 ∧ P 0 s1) ∧
  (s1 = 0 →
   narrow .boolean (.int 1) = .int 1 ∧ P 1 s1)
def zp_Mo_goes (p1 : Int32) (p2 : Int32) (p3 : Int32) (p4 : Int32) (k_thrown : Int32) (P : Int32 → Int32 → Prop) : Prop :=
 (¬ p1 = 0 →
  (¬ p2 = 0 →
   (¬ p3 = 0 →
    (¬ p4 = 0 →
     zp_Mo_goes_35 P 0) ∧
    (p4 = 0 →
     zp_Mo_goes_35 P 4)) ∧
   (p3 = 0 →
    zp_Mo_goes_35 P 3)) ∧
  (p2 = 0 →
   zp_Mo_goes_35 P 2)) ∧
 (p1 = 0 →
  zp_Mo_goes_35 P 1)
def zp_Mo_isOrder (p1 : Int32) (k_orders : Int32) (P : Int32 → Prop) : Prop :=
 zp_Mo_in p1 0 (k_orders - 1) (fun r1 =>
  narrow .boolean (.int r1) = .int r1 ∧ P r1)
def zp_Mo_isItem (p1 : Int32) (k_items : Int32) (P : Int32 → Prop) : Prop :=
 zp_Mo_in p1 0 (k_items - 1) (fun r1 =>
  narrow .boolean (.int r1) = .int r1 ∧ P r1)
def zp_Mo_isDay (p1 : Int32) (P : Int32 → Prop) : Prop :=
 zp_Mo_in p1 0 9999 (fun r1 =>
  narrow .boolean (.int r1) = .int r1 ∧ P r1)
def zp_Mo_isSize (p1 : Int32) (P : Int32 → Prop) : Prop :=
 zp_Mo_in p1 1 100000 (fun r1 =>
  narrow .boolean (.int r1) = .int r1 ∧ P r1)
def zp_Mo_isWeight (p1 : Int32) (P : Int32 → Prop) : Prop :=
 zp_Mo_in p1 0 1000000 (fun r1 =>
  narrow .boolean (.int r1) = .int r1 ∧ P r1)
def zp_Mo_order_33 (p1 : Int32) (p2 : Int32) (P : Int32 → Int32 → Int32 → (Nat → Int32) → (Nat → Int32) → (Nat → Int32) → Prop) (s1 : Int32) (s2 : Int32) (s3 : Int32) (k_thrown : Int32) (k_orders : Int32) (k_customer : Nat → Int32) (k_due : Nat → Int32) (k_group : Nat → Int32) : Prop :=
  zp_Mo_goes s1 s2 s3 1 k_thrown (fun r1 w2 =>
   (¬ r1 = 0 →
    vp_in k_orders 30 ∧
    (vp_in k_orders 30 ∧
    (vp_in k_orders 30 ∧
    (P ((k_orders + 1) - 1) w2 (k_orders + 1) (upd k_customer k_orders.toNatClampNeg p1) (upd k_due k_orders.toNatClampNeg p2) (upd k_group k_orders.toNatClampNeg k_orders))))) ∧
   (r1 = 0 →
    P 0 w2 k_orders k_customer k_due k_group))
def zp_Mo_order (p1 : Int32) (p2 : Int32) (k_thrown : Int32) (k_today : Int32) (k_orders : Int32) (k_customer : Nat → Int32) (k_due : Nat → Int32) (k_group : Nat → Int32) (P : Int32 → Int32 → Int32 → (Nat → Int32) → (Nat → Int32) → (Nat → Int32) → Prop) : Prop :=
 zp_Mo_in p1 0 9 (fun r4 =>
  zp_Mo_in p2 k_today 9999 (fun r5 =>
   (30 ≤ k_orders →
    zp_Mo_order_33 p1 p2 P r4 r5 0 k_thrown k_orders k_customer k_due k_group) ∧
   (¬ 30 ≤ k_orders →
    zp_Mo_order_33 p1 p2 P r4 r5 1 k_thrown k_orders k_customer k_due k_group)))
def zp_Mo_makes (p1 : Int32) (p2 : Int32) (p3 : Int32) (p4 : Int32) (p5 : Int32) (p6 : Int32) (p7 : Int32) (k_items : Int32) (k_orderOf : Nat → Int32) (k_first : Nat → Int32) (P : Int32 → Int32 → (Nat → Int32) → (Nat → Int32) → Prop) : Prop :=
 vp_in k_items 60 ∧
 (vp_in (6 * k_items) 360 ∧
 (vp_in ((6 * k_items) + 1) 360 ∧
 (vp_in ((6 * k_items) + 2) 360 ∧
 (vp_in ((6 * k_items) + 3) 360 ∧
 (vp_in ((6 * k_items) + 4) 360 ∧
 (vp_in ((6 * k_items) + 5) 360 ∧
 (P ((k_items + 1) - 1) (k_items + 1) (upd k_orderOf k_items.toNatClampNeg p1) (upd (upd (upd (upd (upd (upd k_first (6 * k_items).toNatClampNeg p2) ((6 * k_items) + 1).toNatClampNeg p3) ((6 * k_items) + 2).toNatClampNeg p4) ((6 * k_items) + 3).toNatClampNeg p5) ((6 * k_items) + 4).toNatClampNeg p6) ((6 * k_items) + 5).toNatClampNeg p7))))))))
def zp_Mo_item_47 (p1 : Int32) (p2 : Int32) (p3 : Int32) (p4 : Int32) (k_due : Nat → Int32) (P : Int32 → Int32 → Int32 → (Nat → Int32) → (Nat → Int32) → Prop) (s1 : Int32) (s2 : Int32) (s3 : Int32) (k_thrown : Int32) (k_items : Int32) (k_orderOf : Nat → Int32) (k_first : Nat → Int32) : Prop :=
  zp_Mo_goes s1 s2 s3 1 k_thrown (fun r1 w2 =>
   (¬ r1 = 0 →
    vp_in p1 30 ∧
    (zp_Mo_makes p1 p2 p3 p4 0 0 (k_due p1.toNatClampNeg) k_items k_orderOf k_first (fun r4 w5 w6 w7 =>
     P r4 w2 w5 w6 w7))) ∧
   (r1 = 0 →
    P 0 w2 k_items k_orderOf k_first))
def zp_Mo_item_33 (p1 : Int32) (p2 : Int32) (p3 : Int32) (p4 : Int32) (k_due : Nat → Int32) (P : Int32 → Int32 → Int32 → (Nat → Int32) → (Nat → Int32) → Prop) (s1 : Int32) (s2 : Int32) (k_thrown : Int32) (k_items : Int32) (k_orderOf : Nat → Int32) (k_first : Nat → Int32) : Prop :=
  (60 ≤ k_items →
   zp_Mo_item_47 p1 p2 p3 p4 k_due P s1 s2 0 k_thrown k_items k_orderOf k_first) ∧
  (¬ 60 ≤ k_items →
   zp_Mo_item_47 p1 p2 p3 p4 k_due P s1 s2 1 k_thrown k_items k_orderOf k_first)
def zp_Mo_item (p1 : Int32) (p2 : Int32) (p3 : Int32) (p4 : Int32) (k_thrown : Int32) (k_orders : Int32) (k_due : Nat → Int32) (k_items : Int32) (k_orderOf : Nat → Int32) (k_first : Nat → Int32) (P : Int32 → Int32 → Int32 → (Nat → Int32) → (Nat → Int32) → Prop) : Prop :=
 zp_Mo_isOrder p1 k_orders (fun r9 =>
  zp_Mo_isSize p2 (fun r10 =>
   (r10 = 0 →
    zp_Mo_item_33 p1 p2 p3 p4 k_due P r9 0 k_thrown k_items k_orderOf k_first) ∧
   (¬ r10 = 0 →
    zp_Mo_isSize p3 (fun r12 =>
     (r12 = 0 →
      zp_Mo_item_33 p1 p2 p3 p4 k_due P r9 0 k_thrown k_items k_orderOf k_first) ∧
     (¬ r12 = 0 →
      zp_Mo_isSize p4 (fun r14 =>
       (r14 = 0 →
        zp_Mo_item_33 p1 p2 p3 p4 k_due P r9 0 k_thrown k_items k_orderOf k_first) ∧
       (¬ r14 = 0 →
        zp_Mo_item_33 p1 p2 p3 p4 k_due P r9 1 k_thrown k_items k_orderOf k_first)))))))
def zp_Mo_tells (p1 : Int32) (p2 : Int32) (p3 : Int32) (p4 : Int32) (k_today : Int32) (k_changes : Nat → Int32) (k_changeField : Nat → Int32) (k_changeValue : Nat → Int32) (k_changeFrom : Nat → Int32) (k_changeTold : Nat → Int32) (P : (Nat → Int32) → (Nat → Int32) → (Nat → Int32) → (Nat → Int32) → (Nat → Int32) → Prop) : Prop :=
 vp_in p1 60 ∧
 (∀ y1 : Int32, y1 = (20 * p1) + (k_changes p1.toNatClampNeg) →
 vp_in y1 1200 ∧
 (vp_in y1 1200 ∧
 (vp_in y1 1200 ∧
 (vp_in y1 1200 ∧
 (vp_in p1 60 ∧
 (vp_in p1 60 ∧
 (P (upd k_changes p1.toNatClampNeg ((k_changes p1.toNatClampNeg) + 1)) (upd k_changeField y1.toNatClampNeg p2) (upd k_changeValue y1.toNatClampNeg p3) (upd k_changeFrom y1.toNatClampNeg p4) (upd k_changeTold y1.toNatClampNeg k_today))))))))
def zp_Mo_on_76 (K9 : Int32 → Int32 → Prop) (v4 : Int32) (v5 : Int32) : Prop :=
  K9 v4 (v5 + 1)
def zp_Mo_on_72 (K9 : Int32 → Int32 → Prop) (v5 : Int32) : Prop :=
  zp_Mo_on_76 K9 v5 v5
def zp_Mo_on_9 (p1 : Int32) (p2 : Int32) (p3 : Int32) (k_first : Nat → Int32) (k_changes : Nat → Int32) (k_changeField : Nat → Int32) (k_changeValue : Nat → Int32) (k_changeFrom : Nat → Int32) (P : Int32 → Prop) : Nat → Int32 → Int32 → Prop
  | 0 => fun _ _ => False
  | n + 1 => fun v4 v5 =>
  vp_in p1 60 ∧
  ((((20 * p1) + (k_changes p1.toNatClampNeg)) ≤ v5 →
   (0 ≤ v4 →
    vp_in v4 1200 ∧
    (P (k_changeValue v4.toNatClampNeg))) ∧
   (¬ 0 ≤ v4 →
    vp_in ((6 * p1) + p2) 360 ∧
    (P (k_first ((6 * p1) + p2).toNatClampNeg)))) ∧
  (¬ ((20 * p1) + (k_changes p1.toNatClampNeg)) ≤ v5 →
   vp_in v5 1200 ∧
   ((¬ (k_changeField v5.toNatClampNeg) = p2 →
    zp_Mo_on_76 (zp_Mo_on_9 p1 p2 p3 k_first k_changes k_changeField k_changeValue k_changeFrom P n) v4 v5) ∧
   ((k_changeField v5.toNatClampNeg) = p2 →
    vp_in v5 1200 ∧
    (((k_changeFrom v5.toNatClampNeg) ≤ p3 →
     (v4 < 0 →
      zp_Mo_on_72 (zp_Mo_on_9 p1 p2 p3 k_first k_changes k_changeField k_changeValue k_changeFrom P n) v5) ∧
     (¬ v4 < 0 →
      vp_in v5 1200 ∧
      (vp_in v4 1200 ∧
      (((k_changeFrom v5.toNatClampNeg) < (k_changeFrom v4.toNatClampNeg) →
       zp_Mo_on_76 (zp_Mo_on_9 p1 p2 p3 k_first k_changes k_changeField k_changeValue k_changeFrom P n) v4 v5) ∧
      (¬ (k_changeFrom v5.toNatClampNeg) < (k_changeFrom v4.toNatClampNeg) →
       zp_Mo_on_72 (zp_Mo_on_9 p1 p2 p3 k_first k_changes k_changeField k_changeValue k_changeFrom P n) v5))))) ∧
    (¬ (k_changeFrom v5.toNatClampNeg) ≤ p3 →
     zp_Mo_on_76 (zp_Mo_on_9 p1 p2 p3 k_first k_changes k_changeField k_changeValue k_changeFrom P n) v4 v5))))))
def zp_Mo_on (p1 : Int32) (p2 : Int32) (p3 : Int32) (k_first : Nat → Int32) (k_changes : Nat → Int32) (k_changeField : Nat → Int32) (k_changeValue : Nat → Int32) (k_changeFrom : Nat → Int32) (P : Int32 → Prop) : Prop :=
 ∀ y7 : Int32, y7 = 20 * p1 →
 ∃ n, zp_Mo_on_9 p1 p2 p3 k_first k_changes k_changeField k_changeValue k_changeFrom P n (-1) y7
def zp_Mo_weights_54 (p1 : Int32) (p2 : Int32) (p3 : Int32) (k_today : Int32) (P : Int32 → (Nat → Int32) → (Nat → Int32) → (Nat → Int32) → (Nat → Int32) → (Nat → Int32) → Prop) (s1 : Int32) (s2 : Int32) (s3 : Int32) (k_thrown : Int32) (k_changes : Nat → Int32) (k_changeField : Nat → Int32) (k_changeValue : Nat → Int32) (k_changeFrom : Nat → Int32) (k_changeTold : Nat → Int32) : Prop :=
  zp_Mo_goes s1 s2 s3 1 k_thrown (fun r1 w2 =>
   (¬ r1 = 0 →
    zp_Mo_tells p1 3 p2 k_today k_today k_changes k_changeField k_changeValue k_changeFrom k_changeTold (fun w4 w5 w6 w7 w8 =>
     zp_Mo_tells p1 4 p3 k_today k_today w4 w5 w6 w7 w8 (fun w9 w10 w11 w12 w13 =>
      P w2 w9 w10 w11 w12 w13))) ∧
   (r1 = 0 →
    P w2 k_changes k_changeField k_changeValue k_changeFrom k_changeTold))
def zp_Mo_weights_30 (p1 : Int32) (p2 : Int32) (p3 : Int32) (k_today : Int32) (k_items : Int32) (P : Int32 → (Nat → Int32) → (Nat → Int32) → (Nat → Int32) → (Nat → Int32) → (Nat → Int32) → Prop) (s1 : Int32) (s2 : Int32) (k_thrown : Int32) (k_changes : Nat → Int32) (k_changeField : Nat → Int32) (k_changeValue : Nat → Int32) (k_changeFrom : Nat → Int32) (k_changeTold : Nat → Int32) : Prop :=
  zp_Mo_isItem p1 k_items (fun r14 =>
   (r14 = 0 →
    zp_Mo_weights_54 p1 p2 p3 k_today P s1 s2 0 k_thrown k_changes k_changeField k_changeValue k_changeFrom k_changeTold) ∧
   (¬ r14 = 0 →
    vp_in p1 60 ∧
    ((18 < (k_changes p1.toNatClampNeg) →
     zp_Mo_weights_54 p1 p2 p3 k_today P s1 s2 0 k_thrown k_changes k_changeField k_changeValue k_changeFrom k_changeTold) ∧
    (¬ 18 < (k_changes p1.toNatClampNeg) →
     zp_Mo_weights_54 p1 p2 p3 k_today P s1 s2 1 k_thrown k_changes k_changeField k_changeValue k_changeFrom k_changeTold))))
def zp_Mo_weights (p1 : Int32) (p2 : Int32) (p3 : Int32) (k_thrown : Int32) (k_today : Int32) (k_items : Int32) (k_changes : Nat → Int32) (k_changeField : Nat → Int32) (k_changeValue : Nat → Int32) (k_changeFrom : Nat → Int32) (k_changeTold : Nat → Int32) (P : Int32 → (Nat → Int32) → (Nat → Int32) → (Nat → Int32) → (Nat → Int32) → (Nat → Int32) → Prop) : Prop :=
 zp_Mo_isItem p1 k_items (fun r17 =>
  zp_Mo_isWeight p2 (fun r18 =>
   (r18 = 0 →
    zp_Mo_weights_30 p1 p2 p3 k_today k_items P r17 0 k_thrown k_changes k_changeField k_changeValue k_changeFrom k_changeTold) ∧
   (¬ r18 = 0 →
    zp_Mo_isWeight p3 (fun r20 =>
     (r20 = 0 →
      zp_Mo_weights_30 p1 p2 p3 k_today k_items P r17 0 k_thrown k_changes k_changeField k_changeValue k_changeFrom k_changeTold) ∧
     (¬ r20 = 0 →
      (p3 < p2 →
       zp_Mo_weights_30 p1 p2 p3 k_today k_items P r17 0 k_thrown k_changes k_changeField k_changeValue k_changeFrom k_changeTold) ∧
      (¬ p3 < p2 →
       zp_Mo_weights_30 p1 p2 p3 k_today k_items P r17 1 k_thrown k_changes k_changeField k_changeValue k_changeFrom k_changeTold))))))
def zp_Mo_agree (p1 : Int32) (p2 : Int32) (k_thrown : Int32) (k_items : Int32) (k_rule : Nat → Int32) (P : Int32 → (Nat → Int32) → Prop) : Prop :=
 zp_Mo_isItem p1 k_items (fun r1 =>
  zp_Mo_in p2 1 99 (fun r2 =>
   zp_Mo_goes r1 r2 1 1 k_thrown (fun r3 w4 =>
    (r3 = 0 →
     P w4 k_rule) ∧
    (¬ r3 = 0 →
     vp_in p1 60 ∧
     (P w4 (upd k_rule p1.toNatClampNeg p2))))))
def zp_Mo_isMade_2 (p1 : Int32) (k_rows : Int32) (k_rowItem : Nat → Int32) (P : Int32 → Prop) : Nat → Int32 → Prop
  | 0 => fun _ => False
  | n + 1 => fun v2 =>
  (k_rows ≤ v2 →
   narrow .boolean (.int 0) = .int 0 ∧ P 0) ∧
  (¬ k_rows ≤ v2 →
   vp_in v2 200 ∧
   ((¬ (k_rowItem v2.toNatClampNeg) = p1 →
    (zp_Mo_isMade_2 p1 k_rows k_rowItem P n) (v2 + 1)) ∧
   ((k_rowItem v2.toNatClampNeg) = p1 →
    narrow .boolean (.int 1) = .int 1 ∧ P 1)))
def zp_Mo_isMade (p1 : Int32) (k_rows : Int32) (k_rowItem : Nat → Int32) (P : Int32 → Prop) : Prop :=
 ∃ n, zp_Mo_isMade_2 p1 k_rows k_rowItem P n 0
def zp_Mo_isValue (p1 : Int32) (p2 : Int32) (k_today : Int32) (P : Int32 → Prop) : Prop :=
 (3 ≤ p1 →
  (5 ≤ p1 →
   zp_Mo_in p2 k_today 9999 (fun r3 =>
    narrow .boolean (.int r3) = .int r3 ∧ P r3)) ∧
  (¬ 5 ≤ p1 →
   zp_Mo_isWeight p2 (fun r4 =>
    narrow .boolean (.int r4) = .int r4 ∧ P r4))) ∧
 (¬ 3 ≤ p1 →
  zp_Mo_isSize p2 (fun r5 =>
   narrow .boolean (.int r5) = .int r5 ∧ P r5))
def zp_Mo_change_178 (p1 : Int32) (p2 : Int32) (p3 : Int32) (p4 : Int32) (k_today : Int32) (P : Int32 → (Nat → Int32) → (Nat → Int32) → (Nat → Int32) → (Nat → Int32) → (Nat → Int32) → Prop) (v6 : Int32) (v7 : Int32) (v8 : Int32) (s0 : Int32) (k_thrown : Int32) (k_changes : Nat → Int32) (k_changeField : Nat → Int32) (k_changeValue : Nat → Int32) (k_changeFrom : Nat → Int32) (k_changeTold : Nat → Int32) : Prop :=
  zp_Mo_goes v6 v7 v8 s0 k_thrown (fun r1 w2 =>
   (r1 = 0 →
    P w2 k_changes k_changeField k_changeValue k_changeFrom k_changeTold) ∧
   (¬ r1 = 0 →
    zp_Mo_tells p1 p2 p3 p4 k_today k_changes k_changeField k_changeValue k_changeFrom k_changeTold (fun w4 w5 w6 w7 w8 =>
     P w2 w4 w5 w6 w7 w8)))
def zp_Mo_change_170 (p1 : Int32) (p2 : Int32) (p3 : Int32) (p4 : Int32) (k_today : Int32) (P : Int32 → (Nat → Int32) → (Nat → Int32) → (Nat → Int32) → (Nat → Int32) → (Nat → Int32) → Prop) (v6 : Int32) (v7 : Int32) (v8 : Int32) (s0 : Int32) (s1 : Int32) (k_thrown : Int32) (k_changes : Nat → Int32) (k_changeField : Nat → Int32) (k_changeValue : Nat → Int32) (k_changeFrom : Nat → Int32) (k_changeTold : Nat → Int32) : Prop :=
  (s1 < s0 →
   zp_Mo_change_178 p1 p2 p3 p4 k_today P v6 v7 v8 0 k_thrown k_changes k_changeField k_changeValue k_changeFrom k_changeTold) ∧
  (¬ s1 < s0 →
   zp_Mo_change_178 p1 p2 p3 p4 k_today P v6 v7 v8 1 k_thrown k_changes k_changeField k_changeValue k_changeFrom k_changeTold)
def zp_Mo_change_153 (p1 : Int32) (p2 : Int32) (p3 : Int32) (p4 : Int32) (k_today : Int32) (k_first : Nat → Int32) (P : Int32 → (Nat → Int32) → (Nat → Int32) → (Nat → Int32) → (Nat → Int32) → (Nat → Int32) → Prop) (v6 : Int32) (v7 : Int32) (v8 : Int32) (s0 : Int32) (k_thrown : Int32) (k_changes : Nat → Int32) (k_changeField : Nat → Int32) (k_changeValue : Nat → Int32) (k_changeFrom : Nat → Int32) (k_changeTold : Nat → Int32) : Prop :=
  (¬ p2 = 4 →
   zp_Mo_on p1 4 p4 k_first k_changes k_changeField k_changeValue k_changeFrom (fun r11 =>
    zp_Mo_change_170 p1 p2 p3 p4 k_today P v6 v7 v8 s0 r11 k_thrown k_changes k_changeField k_changeValue k_changeFrom k_changeTold)) ∧
  (p2 = 4 →
   zp_Mo_change_170 p1 p2 p3 p4 k_today P v6 v7 v8 s0 p3 k_thrown k_changes k_changeField k_changeValue k_changeFrom k_changeTold)
def zp_Mo_change_113 (p1 : Int32) (p2 : Int32) (p3 : Int32) (p4 : Int32) (k_today : Int32) (k_first : Nat → Int32) (P : Int32 → (Nat → Int32) → (Nat → Int32) → (Nat → Int32) → (Nat → Int32) → (Nat → Int32) → Prop) (v6 : Int32) (v7 : Int32) (v8 : Int32) (s0 : Int32) (k_thrown : Int32) (k_changes : Nat → Int32) (k_changeField : Nat → Int32) (k_changeValue : Nat → Int32) (k_changeFrom : Nat → Int32) (k_changeTold : Nat → Int32) : Prop :=
  (v8 = 0 →
   zp_Mo_change_178 p1 p2 p3 p4 k_today P v6 v7 v8 0 k_thrown k_changes k_changeField k_changeValue k_changeFrom k_changeTold) ∧
  (¬ v8 = 0 →
   vp_in p1 60 ∧
   ((20 ≤ (k_changes p1.toNatClampNeg) →
    zp_Mo_change_178 p1 p2 p3 p4 k_today P v6 v7 v8 0 k_thrown k_changes k_changeField k_changeValue k_changeFrom k_changeTold) ∧
   (¬ 20 ≤ (k_changes p1.toNatClampNeg) →
    (¬ s0 = 0 →
     zp_Mo_change_178 p1 p2 p3 p4 k_today P v6 v7 v8 1 k_thrown k_changes k_changeField k_changeValue k_changeFrom k_changeTold) ∧
    (s0 = 0 →
     (¬ p2 = 3 →
      zp_Mo_on p1 3 p4 k_first k_changes k_changeField k_changeValue k_changeFrom (fun r16 =>
       zp_Mo_change_153 p1 p2 p3 p4 k_today k_first P v6 v7 v8 r16 k_thrown k_changes k_changeField k_changeValue k_changeFrom k_changeTold)) ∧
     (p2 = 3 →
      zp_Mo_change_153 p1 p2 p3 p4 k_today k_first P v6 v7 v8 p3 k_thrown k_changes k_changeField k_changeValue k_changeFrom k_changeTold)))))
def zp_Mo_change_96 (p1 : Int32) (p2 : Int32) (p3 : Int32) (p4 : Int32) (k_today : Int32) (k_first : Nat → Int32) (P : Int32 → (Nat → Int32) → (Nat → Int32) → (Nat → Int32) → (Nat → Int32) → (Nat → Int32) → Prop) (v6 : Int32) (v7 : Int32) (s0 : Int32) (k_thrown : Int32) (k_changes : Nat → Int32) (k_changeField : Nat → Int32) (k_changeValue : Nat → Int32) (k_changeFrom : Nat → Int32) (k_changeTold : Nat → Int32) : Prop :=
  (p2 = 3 →
   zp_Mo_change_113 p1 p2 p3 p4 k_today k_first P v6 v7 s0 0 k_thrown k_changes k_changeField k_changeValue k_changeFrom k_changeTold) ∧
  (¬ p2 = 3 →
   (p2 = 4 →
    zp_Mo_change_113 p1 p2 p3 p4 k_today k_first P v6 v7 s0 0 k_thrown k_changes k_changeField k_changeValue k_changeFrom k_changeTold) ∧
   (¬ p2 = 4 →
    zp_Mo_change_113 p1 p2 p3 p4 k_today k_first P v6 v7 s0 1 k_thrown k_changes k_changeField k_changeValue k_changeFrom k_changeTold))
def zp_Mo_change_67 (p1 : Int32) (p2 : Int32) (p3 : Int32) (p4 : Int32) (k_today : Int32) (k_first : Nat → Int32) (P : Int32 → (Nat → Int32) → (Nat → Int32) → (Nat → Int32) → (Nat → Int32) → (Nat → Int32) → Prop) (v6 : Int32) (s0 : Int32) (k_thrown : Int32) (k_changes : Nat → Int32) (k_changeField : Nat → Int32) (k_changeValue : Nat → Int32) (k_changeFrom : Nat → Int32) (k_changeTold : Nat → Int32) : Prop :=
  (v6 = 0 →
   zp_Mo_change_96 p1 p2 p3 p4 k_today k_first P v6 s0 0 k_thrown k_changes k_changeField k_changeValue k_changeFrom k_changeTold) ∧
  (¬ v6 = 0 →
   zp_Mo_isValue p2 p3 k_today (fun r20 =>
    (r20 = 0 →
     zp_Mo_change_96 p1 p2 p3 p4 k_today k_first P v6 s0 0 k_thrown k_changes k_changeField k_changeValue k_changeFrom k_changeTold) ∧
    (¬ r20 = 0 →
     zp_Mo_isDay p4 (fun r22 =>
      (r22 = 0 →
       zp_Mo_change_96 p1 p2 p3 p4 k_today k_first P v6 s0 0 k_thrown k_changes k_changeField k_changeValue k_changeFrom k_changeTold) ∧
      (¬ r22 = 0 →
       zp_Mo_change_96 p1 p2 p3 p4 k_today k_first P v6 s0 1 k_thrown k_changes k_changeField k_changeValue k_changeFrom k_changeTold)))))
def zp_Mo_change_22 (p1 : Int32) (p2 : Int32) (p3 : Int32) (p4 : Int32) (p5 : Int32) (k_today : Int32) (k_first : Nat → Int32) (k_rule : Nat → Int32) (k_rows : Int32) (k_rowItem : Nat → Int32) (P : Int32 → (Nat → Int32) → (Nat → Int32) → (Nat → Int32) → (Nat → Int32) → (Nat → Int32) → Prop) (s0 : Int32) (k_thrown : Int32) (k_changes : Nat → Int32) (k_changeField : Nat → Int32) (k_changeValue : Nat → Int32) (k_changeFrom : Nat → Int32) (k_changeTold : Nat → Int32) : Prop :=
  (s0 = 0 →
   zp_Mo_change_67 p1 p2 p3 p4 k_today k_first P s0 0 k_thrown k_changes k_changeField k_changeValue k_changeFrom k_changeTold) ∧
  (¬ s0 = 0 →
   (2 < p2 →
    zp_Mo_change_67 p1 p2 p3 p4 k_today k_first P s0 1 k_thrown k_changes k_changeField k_changeValue k_changeFrom k_changeTold) ∧
   (¬ 2 < p2 →
    zp_Mo_isMade p1 k_rows k_rowItem (fun r26 =>
     (r26 = 0 →
      zp_Mo_change_67 p1 p2 p3 p4 k_today k_first P s0 1 k_thrown k_changes k_changeField k_changeValue k_changeFrom k_changeTold) ∧
     (¬ r26 = 0 →
      vp_in p1 60 ∧
      (((k_rule p1.toNatClampNeg) ≤ 0 →
       zp_Mo_change_67 p1 p2 p3 p4 k_today k_first P s0 0 k_thrown k_changes k_changeField k_changeValue k_changeFrom k_changeTold) ∧
      (¬ (k_rule p1.toNatClampNeg) ≤ 0 →
       vp_in p1 60 ∧
       ((¬ (k_rule p1.toNatClampNeg) = p5 →
        zp_Mo_change_67 p1 p2 p3 p4 k_today k_first P s0 0 k_thrown k_changes k_changeField k_changeValue k_changeFrom k_changeTold) ∧
       ((k_rule p1.toNatClampNeg) = p5 →
        zp_Mo_change_67 p1 p2 p3 p4 k_today k_first P s0 1 k_thrown k_changes k_changeField k_changeValue k_changeFrom k_changeTold))))))))
def zp_Mo_change (p1 : Int32) (p2 : Int32) (p3 : Int32) (p4 : Int32) (p5 : Int32) (k_thrown : Int32) (k_today : Int32) (k_items : Int32) (k_first : Nat → Int32) (k_rule : Nat → Int32) (k_changes : Nat → Int32) (k_changeField : Nat → Int32) (k_changeValue : Nat → Int32) (k_changeFrom : Nat → Int32) (k_changeTold : Nat → Int32) (k_rows : Int32) (k_rowItem : Nat → Int32) (P : Int32 → (Nat → Int32) → (Nat → Int32) → (Nat → Int32) → (Nat → Int32) → (Nat → Int32) → Prop) : Prop :=
 zp_Mo_isItem p1 k_items (fun r30 =>
  (r30 = 0 →
   zp_Mo_change_22 p1 p2 p3 p4 p5 k_today k_first k_rule k_rows k_rowItem P 0 k_thrown k_changes k_changeField k_changeValue k_changeFrom k_changeTold) ∧
  (¬ r30 = 0 →
   zp_Mo_in p2 0 5 (fun r32 =>
    (r32 = 0 →
     zp_Mo_change_22 p1 p2 p3 p4 p5 k_today k_first k_rule k_rows k_rowItem P 0 k_thrown k_changes k_changeField k_changeValue k_changeFrom k_changeTold) ∧
    (¬ r32 = 0 →
     zp_Mo_change_22 p1 p2 p3 p4 p5 k_today k_first k_rule k_rows k_rowItem P 1 k_thrown k_changes k_changeField k_changeValue k_changeFrom k_changeTold))))
def zp_Mo_field_23 (p1 : Int32) (p2 : Int32) (p3 : Int32) (k_first : Nat → Int32) (k_changes : Nat → Int32) (k_changeField : Nat → Int32) (k_changeValue : Nat → Int32) (k_changeFrom : Nat → Int32) (P : Int32 → Int32 → Prop) (s1 : Int32) (k_thrown : Int32) : Prop :=
  zp_Mo_isDay p3 (fun r1 =>
   zp_Mo_goes s1 r1 1 1 k_thrown (fun r2 w3 =>
    (¬ r2 = 0 →
     zp_Mo_on p1 p2 p3 k_first k_changes k_changeField k_changeValue k_changeFrom (fun r5 =>
      P r5 w3)) ∧
    (r2 = 0 →
     P 0 w3)))
def zp_Mo_field (p1 : Int32) (p2 : Int32) (p3 : Int32) (k_thrown : Int32) (k_items : Int32) (k_first : Nat → Int32) (k_changes : Nat → Int32) (k_changeField : Nat → Int32) (k_changeValue : Nat → Int32) (k_changeFrom : Nat → Int32) (P : Int32 → Int32 → Prop) : Prop :=
 zp_Mo_isItem p1 k_items (fun r6 =>
  (r6 = 0 →
   zp_Mo_field_23 p1 p2 p3 k_first k_changes k_changeField k_changeValue k_changeFrom P 0 k_thrown) ∧
  (¬ r6 = 0 →
   zp_Mo_in p2 0 5 (fun r8 =>
    (r8 = 0 →
     zp_Mo_field_23 p1 p2 p3 k_first k_changes k_changeField k_changeValue k_changeFrom P 0 k_thrown) ∧
    (¬ r8 = 0 →
     zp_Mo_field_23 p1 p2 p3 k_first k_changes k_changeField k_changeValue k_changeFrom P 1 k_thrown))))
def zp_Mo_history_51 (p1 : Int32) (p2 : Int32) (p3 : Int32) (k_changeField : Nat → Int32) (k_changeValue : Nat → Int32) (k_changeFrom : Nat → Int32) (k_changeTold : Nat → Int32) (P : Int32 → Int32 → Prop) (s1 : Int32) (k_thrown : Int32) : Prop :=
  zp_Mo_goes s1 1 1 1 k_thrown (fun r1 w2 =>
   (¬ r1 = 0 →
    ∀ y4 : Int32, y4 = (20 * p1) + p2 →
    (¬ p3 = 0 →
     (¬ p3 = 1 →
      (¬ p3 = 2 →
       vp_in y4 1200 ∧
       (P (k_changeTold y4.toNatClampNeg) w2)) ∧
      (p3 = 2 →
       vp_in y4 1200 ∧
       (P (k_changeFrom y4.toNatClampNeg) w2))) ∧
     (p3 = 1 →
      vp_in y4 1200 ∧
      (P (k_changeValue y4.toNatClampNeg) w2))) ∧
    (p3 = 0 →
     vp_in y4 1200 ∧
     (P (k_changeField y4.toNatClampNeg) w2))) ∧
   (r1 = 0 →
    P 0 w2))
def zp_Mo_history_29 (p1 : Int32) (p2 : Int32) (p3 : Int32) (k_changeField : Nat → Int32) (k_changeValue : Nat → Int32) (k_changeFrom : Nat → Int32) (k_changeTold : Nat → Int32) (P : Int32 → Int32 → Prop) (s1 : Int32) (s2 : Int32) (s3 : Int32) (k_thrown : Int32) : Prop :=
  zp_Mo_in s1 s2 (s3 - 1) (fun r8 =>
   (r8 = 0 →
    zp_Mo_history_51 p1 p2 p3 k_changeField k_changeValue k_changeFrom k_changeTold P 0 k_thrown) ∧
   (¬ r8 = 0 →
    zp_Mo_in p3 0 3 (fun r10 =>
     (r10 = 0 →
      zp_Mo_history_51 p1 p2 p3 k_changeField k_changeValue k_changeFrom k_changeTold P 0 k_thrown) ∧
     (¬ r10 = 0 →
      zp_Mo_history_51 p1 p2 p3 k_changeField k_changeValue k_changeFrom k_changeTold P 1 k_thrown))))
def zp_Mo_history (p1 : Int32) (p2 : Int32) (p3 : Int32) (k_thrown : Int32) (k_items : Int32) (k_changes : Nat → Int32) (k_changeField : Nat → Int32) (k_changeValue : Nat → Int32) (k_changeFrom : Nat → Int32) (k_changeTold : Nat → Int32) (P : Int32 → Int32 → Prop) : Prop :=
 zp_Mo_isItem p1 k_items (fun r12 =>
  (r12 = 0 →
   zp_Mo_history_51 p1 p2 p3 k_changeField k_changeValue k_changeFrom k_changeTold P 0 k_thrown) ∧
  (¬ r12 = 0 →
   zp_Mo_isItem p1 k_items (fun r14 =>
    (r14 = 0 →
     zp_Mo_history_29 p1 p2 p3 k_changeField k_changeValue k_changeFrom k_changeTold P p2 0 0 k_thrown) ∧
    (¬ r14 = 0 →
     vp_in p1 60 ∧
     (zp_Mo_history_29 p1 p2 p3 k_changeField k_changeValue k_changeFrom k_changeTold P p2 0 (k_changes p1.toNatClampNeg) k_thrown)))))
def zp_Mo_split_113 (p1 : Int32) (p2 : Int32) (k_today : Int32) (P : Int32 → Int32 → Int32 → (Nat → Int32) → (Nat → Int32) → (Nat → Int32) → (Nat → Int32) → (Nat → Int32) → (Nat → Int32) → (Nat → Int32) → Prop) (v4 : Int32) (s0 : Int32) (k_thrown : Int32) (k_items : Int32) (k_orderOf : Nat → Int32) (k_first : Nat → Int32) (k_changes : Nat → Int32) (k_changeField : Nat → Int32) (k_changeValue : Nat → Int32) (k_changeFrom : Nat → Int32) (k_changeTold : Nat → Int32) : Prop :=
  vp_in p1 60 ∧
  (zp_Mo_on p1 0 k_today k_first k_changes k_changeField k_changeValue k_changeFrom (fun r1 =>
   zp_Mo_on p1 1 k_today k_first k_changes k_changeField k_changeValue k_changeFrom (fun r2 =>
    zp_Mo_on p1 2 k_today k_first k_changes k_changeField k_changeValue k_changeFrom (fun r3 =>
     zp_Mo_on p1 5 k_today k_first k_changes k_changeField k_changeValue k_changeFrom (fun r4 =>
      zp_Mo_makes (k_orderOf p1.toNatClampNeg) r1 r2 r3 s0 p2 r4 k_items k_orderOf k_first (fun r5 w6 w7 w8 =>
       zp_Mo_on p1 4 k_today w8 k_changes k_changeField k_changeValue k_changeFrom (fun r9 =>
        zp_Mo_tells p1 3 (v4 - s0) k_today k_today k_changes k_changeField k_changeValue k_changeFrom k_changeTold (fun w10 w11 w12 w13 w14 =>
         zp_Mo_tells p1 4 (r9 - p2) k_today k_today w10 w11 w12 w13 w14 (fun w15 w16 w17 w18 w19 =>
          P r5 k_thrown w6 w7 w8 w15 w16 w17 w18 w19)))))))))
def zp_Mo_split_81 (p1 : Int32) (p2 : Int32) (k_today : Int32) (P : Int32 → Int32 → Int32 → (Nat → Int32) → (Nat → Int32) → (Nat → Int32) → (Nat → Int32) → (Nat → Int32) → (Nat → Int32) → (Nat → Int32) → Prop) (s1 : Int32) (s2 : Int32) (s3 : Int32) (s4 : Int32) (k_thrown : Int32) (k_items : Int32) (k_orderOf : Nat → Int32) (k_first : Nat → Int32) (k_changes : Nat → Int32) (k_changeField : Nat → Int32) (k_changeValue : Nat → Int32) (k_changeFrom : Nat → Int32) (k_changeTold : Nat → Int32) : Prop :=
  zp_Mo_goes s1 s2 s3 s4 k_thrown (fun r20 w21 =>
   (¬ r20 = 0 →
    zp_Mo_on p1 3 k_today k_first k_changes k_changeField k_changeValue k_changeFrom (fun r23 =>
     (p2 ≤ r23 →
      zp_Mo_split_113 p1 p2 k_today P r23 p2 w21 k_items k_orderOf k_first k_changes k_changeField k_changeValue k_changeFrom k_changeTold) ∧
     (¬ p2 ≤ r23 →
      zp_Mo_split_113 p1 p2 k_today P r23 r23 w21 k_items k_orderOf k_first k_changes k_changeField k_changeValue k_changeFrom k_changeTold))) ∧
   (r20 = 0 →
    P 0 w21 k_items k_orderOf k_first k_changes k_changeField k_changeValue k_changeFrom k_changeTold))
def zp_Mo_split_52 (p1 : Int32) (p2 : Int32) (k_today : Int32) (P : Int32 → Int32 → Int32 → (Nat → Int32) → (Nat → Int32) → (Nat → Int32) → (Nat → Int32) → (Nat → Int32) → (Nat → Int32) → (Nat → Int32) → Prop) (v3 : Int32) (s1 : Int32) (s2 : Int32) (s3 : Int32) (k_thrown : Int32) (k_items : Int32) (k_orderOf : Nat → Int32) (k_first : Nat → Int32) (k_changes : Nat → Int32) (k_changeField : Nat → Int32) (k_changeValue : Nat → Int32) (k_changeFrom : Nat → Int32) (k_changeTold : Nat → Int32) : Prop :=
  (v3 = 0 →
   zp_Mo_split_81 p1 p2 k_today P s1 s2 s3 0 k_thrown k_items k_orderOf k_first k_changes k_changeField k_changeValue k_changeFrom k_changeTold) ∧
  (¬ v3 = 0 →
   (60 ≤ k_items →
    zp_Mo_split_81 p1 p2 k_today P s1 s2 s3 0 k_thrown k_items k_orderOf k_first k_changes k_changeField k_changeValue k_changeFrom k_changeTold) ∧
   (¬ 60 ≤ k_items →
    vp_in p1 60 ∧
    ((18 < (k_changes p1.toNatClampNeg) →
     zp_Mo_split_81 p1 p2 k_today P s1 s2 s3 0 k_thrown k_items k_orderOf k_first k_changes k_changeField k_changeValue k_changeFrom k_changeTold) ∧
    (¬ 18 < (k_changes p1.toNatClampNeg) →
     zp_Mo_split_81 p1 p2 k_today P s1 s2 s3 1 k_thrown k_items k_orderOf k_first k_changes k_changeField k_changeValue k_changeFrom k_changeTold))))
def zp_Mo_split_25 (p1 : Int32) (p2 : Int32) (k_today : Int32) (P : Int32 → Int32 → Int32 → (Nat → Int32) → (Nat → Int32) → (Nat → Int32) → (Nat → Int32) → (Nat → Int32) → (Nat → Int32) → (Nat → Int32) → Prop) (v3 : Int32) (s1 : Int32) (s2 : Int32) (k_thrown : Int32) (k_items : Int32) (k_orderOf : Nat → Int32) (k_first : Nat → Int32) (k_changes : Nat → Int32) (k_changeField : Nat → Int32) (k_changeValue : Nat → Int32) (k_changeFrom : Nat → Int32) (k_changeTold : Nat → Int32) : Prop :=
  (v3 = 0 →
   zp_Mo_split_52 p1 p2 k_today P v3 s1 s2 0 k_thrown k_items k_orderOf k_first k_changes k_changeField k_changeValue k_changeFrom k_changeTold) ∧
  (¬ v3 = 0 →
   zp_Mo_on p1 4 k_today k_first k_changes k_changeField k_changeValue k_changeFrom (fun r29 =>
    zp_Mo_in p2 1 r29 (fun r30 =>
     (r30 = 0 →
      zp_Mo_split_52 p1 p2 k_today P v3 s1 s2 0 k_thrown k_items k_orderOf k_first k_changes k_changeField k_changeValue k_changeFrom k_changeTold) ∧
     (¬ r30 = 0 →
      zp_Mo_split_52 p1 p2 k_today P v3 s1 s2 1 k_thrown k_items k_orderOf k_first k_changes k_changeField k_changeValue k_changeFrom k_changeTold))))
def zp_Mo_split (p1 : Int32) (p2 : Int32) (k_thrown : Int32) (k_today : Int32) (k_items : Int32) (k_orderOf : Nat → Int32) (k_first : Nat → Int32) (k_changes : Nat → Int32) (k_changeField : Nat → Int32) (k_changeValue : Nat → Int32) (k_changeFrom : Nat → Int32) (k_changeTold : Nat → Int32) (k_rows : Int32) (k_rowItem : Nat → Int32) (P : Int32 → Int32 → Int32 → (Nat → Int32) → (Nat → Int32) → (Nat → Int32) → (Nat → Int32) → (Nat → Int32) → (Nat → Int32) → (Nat → Int32) → Prop) : Prop :=
 zp_Mo_isItem p1 k_items (fun r32 =>
  (r32 = 0 →
   zp_Mo_split_25 p1 p2 k_today P r32 r32 0 k_thrown k_items k_orderOf k_first k_changes k_changeField k_changeValue k_changeFrom k_changeTold) ∧
  (¬ r32 = 0 →
   zp_Mo_isMade p1 k_rows k_rowItem (fun r34 =>
    (¬ r34 = 0 →
     zp_Mo_split_25 p1 p2 k_today P r32 r32 0 k_thrown k_items k_orderOf k_first k_changes k_changeField k_changeValue k_changeFrom k_changeTold) ∧
    (r34 = 0 →
     zp_Mo_split_25 p1 p2 k_today P r32 r32 1 k_thrown k_items k_orderOf k_first k_changes k_changeField k_changeValue k_changeFrom k_changeTold))))
def zp_Mo_sum_46 (K5 : Int32 → Int32 → Prop) (v3 : Int32) (v4 : Int32) : Prop :=
  K5 v3 (v4 + 1)
def zp_Mo_sum_5 (p1 : Int32) (p2 : Int32) (k_rows : Int32) (k_rowItem : Nat → Int32) (k_rowDay : Nat → Int32) (k_rowKilos : Nat → Int32) (P : Int32 → Prop) : Nat → Int32 → Int32 → Prop
  | 0 => fun _ _ => False
  | n + 1 => fun v3 v4 =>
  (k_rows ≤ v4 →
   P v3) ∧
  (¬ k_rows ≤ v4 →
   vp_in v4 200 ∧
   ((¬ (k_rowItem v4.toNatClampNeg) = p1 →
    zp_Mo_sum_46 (zp_Mo_sum_5 p1 p2 k_rows k_rowItem k_rowDay k_rowKilos P n) v3 v4) ∧
   ((k_rowItem v4.toNatClampNeg) = p1 →
    vp_in v4 200 ∧
    ((p2 < (k_rowDay v4.toNatClampNeg) →
     zp_Mo_sum_46 (zp_Mo_sum_5 p1 p2 k_rows k_rowItem k_rowDay k_rowKilos P n) v3 v4) ∧
    (¬ p2 < (k_rowDay v4.toNatClampNeg) →
     vp_in v4 200 ∧
     (∀ y4 : Int32, y4 = v3 + (k_rowKilos v4.toNatClampNeg) →
     zp_Mo_sum_46 (zp_Mo_sum_5 p1 p2 k_rows k_rowItem k_rowDay k_rowKilos P n) y4 v4))))))
def zp_Mo_sum (p1 : Int32) (p2 : Int32) (k_rows : Int32) (k_rowItem : Nat → Int32) (k_rowDay : Nat → Int32) (k_rowKilos : Nat → Int32) (P : Int32 → Prop) : Prop :=
 ∃ n, zp_Mo_sum_5 p1 p2 k_rows k_rowItem k_rowDay k_rowKilos P n 0 0
def zp_Mo_made_58 (p1 : Int32) (p2 : Int32) (k_today : Int32) (P : Int32 → Int32 → Int32 → (Nat → Int32) → (Nat → Int32) → (Nat → Int32) → Prop) (s1 : Int32) (s2 : Int32) (s3 : Int32) (k_thrown : Int32) (k_rows : Int32) (k_rowItem : Nat → Int32) (k_rowDay : Nat → Int32) (k_rowKilos : Nat → Int32) : Prop :=
  zp_Mo_goes s1 s2 s3 1 k_thrown (fun r1 w2 =>
   (¬ r1 = 0 →
    vp_in k_rows 200 ∧
    (vp_in k_rows 200 ∧
    (vp_in k_rows 200 ∧
    (zp_Mo_sum p1 9999 (k_rows + 1) (upd k_rowItem k_rows.toNatClampNeg p1) (upd k_rowDay k_rows.toNatClampNeg k_today) (upd k_rowKilos k_rows.toNatClampNeg p2) (fun r4 =>
     P r4 w2 (k_rows + 1) (upd k_rowItem k_rows.toNatClampNeg p1) (upd k_rowDay k_rows.toNatClampNeg k_today) (upd k_rowKilos k_rows.toNatClampNeg p2)))))) ∧
   (r1 = 0 →
    P 0 w2 k_rows k_rowItem k_rowDay k_rowKilos))
def zp_Mo_made (p1 : Int32) (p2 : Int32) (k_thrown : Int32) (k_today : Int32) (k_items : Int32) (k_rows : Int32) (k_rowItem : Nat → Int32) (k_rowDay : Nat → Int32) (k_rowKilos : Nat → Int32) (P : Int32 → Int32 → Int32 → (Nat → Int32) → (Nat → Int32) → (Nat → Int32) → Prop) : Prop :=
 zp_Mo_isItem p1 k_items (fun r5 =>
  zp_Mo_in p2 1 1000000 (fun r6 =>
   (r5 = 0 →
    zp_Mo_made_58 p1 p2 k_today P r5 r6 0 k_thrown k_rows k_rowItem k_rowDay k_rowKilos) ∧
   (¬ r5 = 0 →
    (r6 = 0 →
     zp_Mo_made_58 p1 p2 k_today P r5 r6 0 k_thrown k_rows k_rowItem k_rowDay k_rowKilos) ∧
    (¬ r6 = 0 →
     (200 ≤ k_rows →
      zp_Mo_made_58 p1 p2 k_today P r5 r6 0 k_thrown k_rows k_rowItem k_rowDay k_rowKilos) ∧
     (¬ 200 ≤ k_rows →
      zp_Mo_sum p1 9999 k_rows k_rowItem k_rowDay k_rowKilos (fun r10 =>
       (1000000000 < (r10 + p2) →
        zp_Mo_made_58 p1 p2 k_today P r5 r6 0 k_thrown k_rows k_rowItem k_rowDay k_rowKilos) ∧
       (¬ 1000000000 < (r10 + p2) →
        zp_Mo_made_58 p1 p2 k_today P r5 r6 1 k_thrown k_rows k_rowItem k_rowDay k_rowKilos)))))))
def zp_Mo_stateOn (p1 : Int32) (p2 : Int32) (k_first : Nat → Int32) (k_changes : Nat → Int32) (k_changeField : Nat → Int32) (k_changeValue : Nat → Int32) (k_changeFrom : Nat → Int32) (k_rows : Int32) (k_rowItem : Nat → Int32) (k_rowDay : Nat → Int32) (k_rowKilos : Nat → Int32) (P : Int32 → Prop) : Prop :=
 zp_Mo_sum p1 p2 k_rows k_rowItem k_rowDay k_rowKilos (fun r1 =>
  zp_Mo_on p1 4 p2 k_first k_changes k_changeField k_changeValue k_changeFrom (fun r2 =>
   (r1 ≤ r2 →
    zp_Mo_on p1 3 p2 k_first k_changes k_changeField k_changeValue k_changeFrom (fun r4 =>
     (r1 < r4 →
      zp_Mo_on p1 5 p2 k_first k_changes k_changeField k_changeValue k_changeFrom (fun r6 =>
       (r6 < p2 →
        P 1) ∧
       (¬ r6 < p2 →
        P 0))) ∧
     (¬ r1 < r4 →
      P 2))) ∧
   (¬ r1 ≤ r2 →
    P 3)))
def zp_Mo_state (p1 : Int32) (p2 : Int32) (k_thrown : Int32) (k_items : Int32) (k_first : Nat → Int32) (k_changes : Nat → Int32) (k_changeField : Nat → Int32) (k_changeValue : Nat → Int32) (k_changeFrom : Nat → Int32) (k_rows : Int32) (k_rowItem : Nat → Int32) (k_rowDay : Nat → Int32) (k_rowKilos : Nat → Int32) (P : Int32 → Int32 → Prop) : Prop :=
 zp_Mo_isItem p1 k_items (fun r1 =>
  zp_Mo_isDay p2 (fun r2 =>
   zp_Mo_goes r1 r2 1 1 k_thrown (fun r3 w4 =>
    (¬ r3 = 0 →
     zp_Mo_stateOn p1 p2 k_first k_changes k_changeField k_changeValue k_changeFrom k_rows k_rowItem k_rowDay k_rowKilos (fun r6 =>
      P r6 w4)) ∧
    (r3 = 0 →
     P 0 w4))))
def zp_Mo_rest (p1 : Int32) (k_thrown : Int32) (k_today : Int32) (k_items : Int32) (k_first : Nat → Int32) (k_changes : Nat → Int32) (k_changeField : Nat → Int32) (k_changeValue : Nat → Int32) (k_changeFrom : Nat → Int32) (k_rows : Int32) (k_rowItem : Nat → Int32) (k_rowDay : Nat → Int32) (k_rowKilos : Nat → Int32) (P : Int32 → Int32 → Prop) : Prop :=
 zp_Mo_isItem p1 k_items (fun r1 =>
  zp_Mo_goes r1 1 1 1 k_thrown (fun r2 w3 =>
   (¬ r2 = 0 →
    zp_Mo_on p1 3 k_today k_first k_changes k_changeField k_changeValue k_changeFrom (fun r5 =>
     zp_Mo_sum p1 k_today k_rows k_rowItem k_rowDay k_rowKilos (fun r6 =>
      ∀ y7 : Int32, y7 = r5 - r6 →
      (y7 ≤ 0 →
       P 0 w3) ∧
      (¬ y7 ≤ 0 →
       P y7 w3)))) ∧
   (r2 = 0 →
    P 0 w3)))
def zp_Mo_isCost (p1 : Int32) (P : Int32 → Prop) : Prop :=
 zp_Mo_in p1 0 100000 (fun r1 =>
  narrow .boolean (.int r1) = .int r1 ∧ P r1)
def zp_Mo_costs_27 (p1 : Int32) (p2 : Int32) (p3 : Int32) (P : Int32 → Int32 → Int32 → Int32 → Prop) (s1 : Int32) (k_thrown : Int32) (k_base : Int32) (k_perThousand : Int32) (k_perWidth : Int32) : Prop :=
  zp_Mo_goes s1 1 1 1 k_thrown (fun r1 w2 =>
   (¬ r1 = 0 →
    P w2 p1 p2 p3) ∧
   (r1 = 0 →
    P w2 k_base k_perThousand k_perWidth))
def zp_Mo_costs (p1 : Int32) (p2 : Int32) (p3 : Int32) (k_thrown : Int32) (k_base : Int32) (k_perThousand : Int32) (k_perWidth : Int32) (P : Int32 → Int32 → Int32 → Int32 → Prop) : Prop :=
 zp_Mo_isCost p1 (fun r4 =>
  (r4 = 0 →
   zp_Mo_costs_27 p1 p2 p3 P 0 k_thrown k_base k_perThousand k_perWidth) ∧
  (¬ r4 = 0 →
   zp_Mo_isCost p2 (fun r6 =>
    (r6 = 0 →
     zp_Mo_costs_27 p1 p2 p3 P 0 k_thrown k_base k_perThousand k_perWidth) ∧
    (¬ r6 = 0 →
     zp_Mo_isCost p3 (fun r8 =>
      (r8 = 0 →
       zp_Mo_costs_27 p1 p2 p3 P 0 k_thrown k_base k_perThousand k_perWidth) ∧
      (¬ r8 = 0 →
       zp_Mo_costs_27 p1 p2 p3 P 1 k_thrown k_base k_perThousand k_perWidth))))))
def zp_Mo_quote_31 (p1 : Int32) (p2 : Int32) (k_today : Int32) (k_first : Nat → Int32) (k_changes : Nat → Int32) (k_changeField : Nat → Int32) (k_changeValue : Nat → Int32) (k_changeFrom : Nat → Int32) (k_base : Int32) (k_perThousand : Int32) (k_perWidth : Int32) (P : Int32 → Int32 → Int32 → (Nat → Int32) → (Nat → Int32) → (Nat → Int64) → Prop) (s1 : Int32) (s2 : Int32) (s3 : Int32) (k_thrown : Int32) (k_quotes : Int32) (k_quoteItem : Nat → Int32) (k_quoteUntil : Nat → Int32) (k_quotePrice : Nat → Int64) : Prop :=
  zp_Mo_goes s1 s2 s3 1 k_thrown (fun r1 w2 =>
   (¬ r1 = 0 →
    zp_Mo_on p1 4 k_today k_first k_changes k_changeField k_changeValue k_changeFrom (fun r4 =>
     ¬ (1000 : Int32) = 0 ∧
     (∀ y5 : Int64, y5 = ((r4 + 999) / 1000).toInt64 →
     vp_in k_quotes 60 ∧
     (vp_in k_quotes 60 ∧
     (zp_Mo_on p1 1 k_today k_first k_changes k_changeField k_changeValue k_changeFrom (fun r6 =>
      vp_in k_quotes 60 ∧
      (P ((k_quotes + 1) - 1) w2 (k_quotes + 1) (upd k_quoteItem k_quotes.toNatClampNeg p1) (upd k_quoteUntil k_quotes.toNatClampNeg p2) (vp_updL k_quotePrice k_quotes.toNatClampNeg ((k_base.toInt64 + (y5 * k_perThousand.toInt64)) + (r6.toInt64 * k_perWidth.toInt64)))))))))) ∧
   (r1 = 0 →
    P 0 w2 k_quotes k_quoteItem k_quoteUntil k_quotePrice))
def zp_Mo_quote (p1 : Int32) (p2 : Int32) (k_thrown : Int32) (k_today : Int32) (k_items : Int32) (k_first : Nat → Int32) (k_changes : Nat → Int32) (k_changeField : Nat → Int32) (k_changeValue : Nat → Int32) (k_changeFrom : Nat → Int32) (k_base : Int32) (k_perThousand : Int32) (k_perWidth : Int32) (k_quotes : Int32) (k_quoteItem : Nat → Int32) (k_quoteUntil : Nat → Int32) (k_quotePrice : Nat → Int64) (P : Int32 → Int32 → Int32 → (Nat → Int32) → (Nat → Int32) → (Nat → Int64) → Prop) : Prop :=
 zp_Mo_isItem p1 k_items (fun r7 =>
  zp_Mo_in p2 k_today 9999 (fun r8 =>
   (60 ≤ k_quotes →
    zp_Mo_quote_31 p1 p2 k_today k_first k_changes k_changeField k_changeValue k_changeFrom k_base k_perThousand k_perWidth P r7 r8 0 k_thrown k_quotes k_quoteItem k_quoteUntil k_quotePrice) ∧
   (¬ 60 ≤ k_quotes →
    zp_Mo_quote_31 p1 p2 k_today k_first k_changes k_changeField k_changeValue k_changeFrom k_base k_perThousand k_perWidth P r7 r8 1 k_thrown k_quotes k_quoteItem k_quoteUntil k_quotePrice)))
def zp_Mo_isQuote (p1 : Int32) (k_quotes : Int32) (P : Int32 → Prop) : Prop :=
 zp_Mo_in p1 0 (k_quotes - 1) (fun r1 =>
  narrow .boolean (.int r1) = .int r1 ∧ P r1)
def zp_Mo_quoteAt_23 (p1 : Int32) (p2 : Int32) (k_quoteItem : Nat → Int32) (k_quoteUntil : Nat → Int32) (k_accepted : Nat → Int32) (P : Int32 → Int32 → Prop) (s1 : Int32) (k_thrown : Int32) : Prop :=
  zp_Mo_goes s1 1 1 1 k_thrown (fun r1 w2 =>
   (¬ r1 = 0 →
    (¬ p2 = 0 →
     (¬ p2 = 1 →
      vp_in p1 60 ∧
      (((k_accepted p1.toNatClampNeg) = 0 →
       P 0 w2) ∧
      (¬ (k_accepted p1.toNatClampNeg) = 0 →
       P 1 w2))) ∧
     (p2 = 1 →
      vp_in p1 60 ∧
      (P (k_quoteUntil p1.toNatClampNeg) w2))) ∧
    (p2 = 0 →
     vp_in p1 60 ∧
     (P (k_quoteItem p1.toNatClampNeg) w2))) ∧
   (r1 = 0 →
    P 0 w2))
def zp_Mo_quoteAt (p1 : Int32) (p2 : Int32) (k_thrown : Int32) (k_quotes : Int32) (k_quoteItem : Nat → Int32) (k_quoteUntil : Nat → Int32) (k_accepted : Nat → Int32) (P : Int32 → Int32 → Prop) : Prop :=
 zp_Mo_isQuote p1 k_quotes (fun r7 =>
  (r7 = 0 →
   zp_Mo_quoteAt_23 p1 p2 k_quoteItem k_quoteUntil k_accepted P 0 k_thrown) ∧
  (¬ r7 = 0 →
   zp_Mo_in p2 0 2 (fun r9 =>
    (r9 = 0 →
     zp_Mo_quoteAt_23 p1 p2 k_quoteItem k_quoteUntil k_accepted P 0 k_thrown) ∧
    (¬ r9 = 0 →
     zp_Mo_quoteAt_23 p1 p2 k_quoteItem k_quoteUntil k_accepted P 1 k_thrown))))
def zp_Mo_price (p1 : Int32) (k_thrown : Int32) (k_quotes : Int32) (k_quotePrice : Nat → Int64) (P : Int64 → Int32 → Prop) : Prop :=
 zp_Mo_isQuote p1 k_quotes (fun r1 =>
  zp_Mo_goes r1 1 1 1 k_thrown (fun r2 w3 =>
   (¬ r2 = 0 →
    vp_in p1 60 ∧
    (P (k_quotePrice p1.toNatClampNeg) w3)) ∧
   (r2 = 0 →
    P 0 w3)))
def zp_Mo_credit (p1 : Int32) (p2 : Int32) (k_thrown : Int32) (k_credit : Nat → Int32) (P : Int32 → (Nat → Int32) → Prop) : Prop :=
 zp_Mo_in p1 0 9 (fun r1 =>
  zp_Mo_in p2 0 2000000000 (fun r2 =>
   zp_Mo_goes r1 r2 1 1 k_thrown (fun r3 w4 =>
    (r3 = 0 →
     P w4 k_credit) ∧
    (¬ r3 = 0 →
     vp_in p1 10 ∧
     (P w4 (upd k_credit p1.toNatClampNeg p2))))))
def zp_Mo_customerOf (p1 : Int32) (k_customer : Nat → Int32) (k_orderOf : Nat → Int32) (k_quoteItem : Nat → Int32) (P : Int32 → Prop) : Prop :=
 vp_in p1 60 ∧
 (vp_in (k_quoteItem p1.toNatClampNeg) 60 ∧
 (vp_in (k_orderOf (k_quoteItem p1.toNatClampNeg).toNatClampNeg) 30 ∧
 (P (k_customer (k_orderOf (k_quoteItem p1.toNatClampNeg).toNatClampNeg).toNatClampNeg))))
def zp_Mo_accept_135 (p1 : Int32) (P : Int64 → Int32 → (Nat → Int32) → Prop) (v3 : Int64) (s1 : Int32) (s2 : Int32) (s3 : Int32) (k_thrown : Int32) (k_accepted : Nat → Int32) : Prop :=
  zp_Mo_goes s1 s2 s3 1 k_thrown (fun r1 w2 =>
   (¬ r1 = 0 →
    vp_in p1 60 ∧
    (P v3 w2 (upd k_accepted p1.toNatClampNeg (vp_nar .boolean 1)))) ∧
   (r1 = 0 →
    P 0 w2 k_accepted))
def zp_Mo_accept_110 (p1 : Int32) (k_credit : Nat → Int32) (k_customer : Nat → Int32) (k_orderOf : Nat → Int32) (k_quoteItem : Nat → Int32) (P : Int64 → Int32 → (Nat → Int32) → Prop) (v2 : Int32) (v3 : Int64) (s1 : Int32) (s2 : Int32) (k_thrown : Int32) (k_accepted : Nat → Int32) : Prop :=
  (v2 = 0 →
   zp_Mo_accept_135 p1 P v3 s1 s2 0 k_thrown k_accepted) ∧
  (¬ v2 = 0 →
   zp_Mo_customerOf p1 k_customer k_orderOf k_quoteItem (fun r5 =>
    vp_in r5 10 ∧
    ((0 < (lg_cmp v3 ((k_credit r5.toNatClampNeg).toInt64)) →
     zp_Mo_accept_135 p1 P v3 s1 s2 0 k_thrown k_accepted) ∧
    (¬ 0 < (lg_cmp v3 ((k_credit r5.toNatClampNeg).toInt64)) →
     zp_Mo_accept_135 p1 P v3 s1 s2 1 k_thrown k_accepted))))
def zp_Mo_accept_77 (p1 : Int32) (k_today : Int32) (k_credit : Nat → Int32) (k_customer : Nat → Int32) (k_orderOf : Nat → Int32) (k_quoteItem : Nat → Int32) (k_quoteUntil : Nat → Int32) (P : Int64 → Int32 → (Nat → Int32) → Prop) (v2 : Int32) (v3 : Int64) (k_thrown : Int32) (k_accepted : Nat → Int32) : Prop :=
  (v2 = 0 →
   zp_Mo_accept_110 p1 k_credit k_customer k_orderOf k_quoteItem P v2 v3 v2 0 k_thrown k_accepted) ∧
  (¬ v2 = 0 →
   vp_in p1 60 ∧
   ((¬ (k_accepted p1.toNatClampNeg) = 0 →
    zp_Mo_accept_110 p1 k_credit k_customer k_orderOf k_quoteItem P v2 v3 v2 0 k_thrown k_accepted) ∧
   ((k_accepted p1.toNatClampNeg) = 0 →
    vp_in p1 60 ∧
    (((k_quoteUntil p1.toNatClampNeg) < k_today →
     zp_Mo_accept_110 p1 k_credit k_customer k_orderOf k_quoteItem P v2 v3 v2 0 k_thrown k_accepted) ∧
    (¬ (k_quoteUntil p1.toNatClampNeg) < k_today →
     zp_Mo_accept_110 p1 k_credit k_customer k_orderOf k_quoteItem P v2 v3 v2 1 k_thrown k_accepted)))))
def zp_Mo_accept_71 (K24 : Int64 → Int32 → Prop) (v3 : Int64) (v5 : Int32) : Prop :=
  K24 v3 (v5 + 1)
def zp_Mo_accept_24 (p1 : Int32) (k_today : Int32) (k_credit : Nat → Int32) (k_customer : Nat → Int32) (k_orderOf : Nat → Int32) (k_quotes : Int32) (k_quoteItem : Nat → Int32) (k_quoteUntil : Nat → Int32) (k_quotePrice : Nat → Int64) (P : Int64 → Int32 → (Nat → Int32) → Prop) (v2 : Int32) (k_thrown : Int32) (k_accepted : Nat → Int32) : Nat → Int64 → Int32 → Prop
  | 0 => fun _ _ => False
  | n + 1 => fun v3 v5 =>
  (k_quotes ≤ v5 →
   zp_Mo_accept_77 p1 k_today k_credit k_customer k_orderOf k_quoteItem k_quoteUntil P v2 v3 k_thrown k_accepted) ∧
  (¬ k_quotes ≤ v5 →
   (v2 = 0 →
    zp_Mo_accept_77 p1 k_today k_credit k_customer k_orderOf k_quoteItem k_quoteUntil P v2 v3 k_thrown k_accepted) ∧
   (¬ v2 = 0 →
    vp_in v5 60 ∧
    (((k_accepted v5.toNatClampNeg) = 0 →
     zp_Mo_accept_71 (zp_Mo_accept_24 p1 k_today k_credit k_customer k_orderOf k_quotes k_quoteItem k_quoteUntil k_quotePrice P v2 k_thrown k_accepted n) v3 v5) ∧
    (¬ (k_accepted v5.toNatClampNeg) = 0 →
     zp_Mo_customerOf v5 k_customer k_orderOf k_quoteItem (fun r13 =>
      zp_Mo_customerOf p1 k_customer k_orderOf k_quoteItem (fun r14 =>
       (¬ r13 = r14 →
        zp_Mo_accept_71 (zp_Mo_accept_24 p1 k_today k_credit k_customer k_orderOf k_quotes k_quoteItem k_quoteUntil k_quotePrice P v2 k_thrown k_accepted n) v3 v5) ∧
       (r13 = r14 →
        vp_in v5 60 ∧
        (∀ y16 : Int64, y16 = v3 + (k_quotePrice v5.toNatClampNeg) →
        zp_Mo_accept_71 (zp_Mo_accept_24 p1 k_today k_credit k_customer k_orderOf k_quotes k_quoteItem k_quoteUntil k_quotePrice P v2 k_thrown k_accepted n) y16 v5))))))))
def zp_Mo_accept_20 (p1 : Int32) (k_today : Int32) (k_credit : Nat → Int32) (k_customer : Nat → Int32) (k_orderOf : Nat → Int32) (k_quotes : Int32) (k_quoteItem : Nat → Int32) (k_quoteUntil : Nat → Int32) (k_quotePrice : Nat → Int64) (P : Int64 → Int32 → (Nat → Int32) → Prop) (v2 : Int32) (s0 : Int64) (k_thrown : Int32) (k_accepted : Nat → Int32) : Prop :=
  ∃ n, zp_Mo_accept_24 p1 k_today k_credit k_customer k_orderOf k_quotes k_quoteItem k_quoteUntil k_quotePrice P v2 k_thrown k_accepted n s0 0
def zp_Mo_accept (p1 : Int32) (k_thrown : Int32) (k_today : Int32) (k_credit : Nat → Int32) (k_customer : Nat → Int32) (k_orderOf : Nat → Int32) (k_quotes : Int32) (k_quoteItem : Nat → Int32) (k_quoteUntil : Nat → Int32) (k_quotePrice : Nat → Int64) (k_accepted : Nat → Int32) (P : Int64 → Int32 → (Nat → Int32) → Prop) : Prop :=
 zp_Mo_isQuote p1 k_quotes (fun r17 =>
  (r17 = 0 →
   zp_Mo_accept_20 p1 k_today k_credit k_customer k_orderOf k_quotes k_quoteItem k_quoteUntil k_quotePrice P r17 0 k_thrown k_accepted) ∧
  (¬ r17 = 0 →
   vp_in p1 60 ∧
   (zp_Mo_accept_20 p1 k_today k_credit k_customer k_orderOf k_quotes k_quoteItem k_quoteUntil k_quotePrice P r17 (k_quotePrice p1.toNatClampNeg) k_thrown k_accepted)))
def zp_Mo_capacity_23 (K4 : Int32 → Int32 → Prop) (v2 : Int32) (v3 : Int32) : Prop :=
  K4 v2 (v3 + 1)
def zp_Mo_capacity_4 (p1 : Int32) (k_taken : Nat → Int32) (P : Int32 → Int32 → Prop) (k_thrown : Int32) (k_capacity : Int32) : Nat → Int32 → Int32 → Prop
  | 0 => fun _ _ => False
  | n + 1 => fun v2 v3 =>
  (9999 < v3 →
   zp_Mo_in p1 0 100000000 (fun r2 =>
    zp_Mo_goes r2 v2 1 1 k_thrown (fun r3 w4 =>
     (r3 = 0 →
      P w4 k_capacity) ∧
     (¬ r3 = 0 →
      P w4 p1)))) ∧
  (¬ 9999 < v3 →
   vp_in v3 10000 ∧
   (((k_taken v3.toNatClampNeg) ≤ p1 →
    zp_Mo_capacity_23 (zp_Mo_capacity_4 p1 k_taken P k_thrown k_capacity n) v2 v3) ∧
   (¬ (k_taken v3.toNatClampNeg) ≤ p1 →
    zp_Mo_capacity_23 (zp_Mo_capacity_4 p1 k_taken P k_thrown k_capacity n) 0 v3)))
def zp_Mo_capacity (p1 : Int32) (k_thrown : Int32) (k_capacity : Int32) (k_taken : Nat → Int32) (P : Int32 → Int32 → Prop) : Prop :=
 ∃ n, zp_Mo_capacity_4 p1 k_taken P k_thrown k_capacity n 1 0
def zp_Mo_reserve_110 (p1 : Int32) (P : Int32 → Int32 → (Nat → Int32) → (Nat → Int32) → Prop) (v3 : Int32) (v4 : Int32) (s1 : Int32) (s2 : Int32) (s3 : Int32) (k_thrown : Int32) (k_reserved : Nat → Int32) (k_taken : Nat → Int32) : Prop :=
  zp_Mo_goes s1 s2 s3 1 k_thrown (fun r1 w2 =>
   (¬ r1 = 0 →
    vp_in p1 60 ∧
    (vp_in v4 10000 ∧
    (vp_in v4 10000 ∧
    (P v4 w2 (upd k_reserved p1.toNatClampNeg (vp_nar .boolean 1)) (upd k_taken v4.toNatClampNeg ((k_taken v4.toNatClampNeg) + v3)))))) ∧
   (r1 = 0 →
    P 0 w2 k_reserved k_taken))
def zp_Mo_reserve_96 (p1 : Int32) (k_today : Int32) (P : Int32 → Int32 → (Nat → Int32) → (Nat → Int32) → Prop) (v3 : Int32) (v4 : Int32) (s1 : Int32) (s2 : Int32) (k_thrown : Int32) (k_reserved : Nat → Int32) (k_taken : Nat → Int32) : Prop :=
  (v4 < k_today →
   zp_Mo_reserve_110 p1 P v3 v4 s1 s2 0 k_thrown k_reserved k_taken) ∧
  (¬ v4 < k_today →
   zp_Mo_reserve_110 p1 P v3 v4 s1 s2 1 k_thrown k_reserved k_taken)
def zp_Mo_reserve_76 (p1 : Int32) (k_today : Int32) (P : Int32 → Int32 → (Nat → Int32) → (Nat → Int32) → Prop) (v2 : Int32) (v3 : Int32) (v4 : Int32) (k_thrown : Int32) (k_reserved : Nat → Int32) (k_taken : Nat → Int32) : Prop :=
  (v2 = 0 →
   zp_Mo_reserve_96 p1 k_today P v3 v4 v2 0 k_thrown k_reserved k_taken) ∧
  (¬ v2 = 0 →
   vp_in p1 60 ∧
   ((¬ (k_reserved p1.toNatClampNeg) = 0 →
    zp_Mo_reserve_96 p1 k_today P v3 v4 v2 0 k_thrown k_reserved k_taken) ∧
   ((k_reserved p1.toNatClampNeg) = 0 →
    zp_Mo_reserve_96 p1 k_today P v3 v4 v2 1 k_thrown k_reserved k_taken)))
def zp_Mo_reserve_45 (p1 : Int32) (k_today : Int32) (k_capacity : Int32) (P : Int32 → Int32 → (Nat → Int32) → (Nat → Int32) → Prop) (v2 : Int32) (v3 : Int32) (k_thrown : Int32) (k_reserved : Nat → Int32) (k_taken : Nat → Int32) : Nat → Int32 → Prop
  | 0 => fun _ => False
  | n + 1 => fun v4 =>
  (v4 < k_today →
   zp_Mo_reserve_76 p1 k_today P v2 v3 v4 k_thrown k_reserved k_taken) ∧
  (¬ v4 < k_today →
   vp_in v4 10000 ∧
   ((v3 ≤ (k_capacity - (k_taken v4.toNatClampNeg)) →
    zp_Mo_reserve_76 p1 k_today P v2 v3 v4 k_thrown k_reserved k_taken) ∧
   (¬ v3 ≤ (k_capacity - (k_taken v4.toNatClampNeg)) →
    (zp_Mo_reserve_45 p1 k_today k_capacity P v2 v3 k_thrown k_reserved k_taken n) (v4 + (-1)))))
def zp_Mo_reserve_43 (p1 : Int32) (k_today : Int32) (k_capacity : Int32) (P : Int32 → Int32 → (Nat → Int32) → (Nat → Int32) → Prop) (v2 : Int32) (v3 : Int32) (s0 : Int32) (k_thrown : Int32) (k_reserved : Nat → Int32) (k_taken : Nat → Int32) : Prop :=
  ∃ n, zp_Mo_reserve_45 p1 k_today k_capacity P v2 v3 k_thrown k_reserved k_taken n s0
def zp_Mo_reserve_24 (p1 : Int32) (k_today : Int32) (k_first : Nat → Int32) (k_changes : Nat → Int32) (k_changeField : Nat → Int32) (k_changeValue : Nat → Int32) (k_changeFrom : Nat → Int32) (k_capacity : Int32) (P : Int32 → Int32 → (Nat → Int32) → (Nat → Int32) → Prop) (v2 : Int32) (s0 : Int32) (k_thrown : Int32) (k_reserved : Nat → Int32) (k_taken : Nat → Int32) : Prop :=
  (v2 = 0 →
   zp_Mo_reserve_43 p1 k_today k_capacity P v2 s0 (-1) k_thrown k_reserved k_taken) ∧
  (¬ v2 = 0 →
   zp_Mo_on p1 5 k_today k_first k_changes k_changeField k_changeValue k_changeFrom (fun r10 =>
    zp_Mo_reserve_43 p1 k_today k_capacity P v2 s0 r10 k_thrown k_reserved k_taken))
def zp_Mo_reserve (p1 : Int32) (k_thrown : Int32) (k_today : Int32) (k_items : Int32) (k_first : Nat → Int32) (k_reserved : Nat → Int32) (k_changes : Nat → Int32) (k_changeField : Nat → Int32) (k_changeValue : Nat → Int32) (k_changeFrom : Nat → Int32) (k_capacity : Int32) (k_taken : Nat → Int32) (P : Int32 → Int32 → (Nat → Int32) → (Nat → Int32) → Prop) : Prop :=
 zp_Mo_isItem p1 k_items (fun r11 =>
  (r11 = 0 →
   zp_Mo_reserve_24 p1 k_today k_first k_changes k_changeField k_changeValue k_changeFrom k_capacity P r11 0 k_thrown k_reserved k_taken) ∧
  (¬ r11 = 0 →
   zp_Mo_on p1 4 k_today k_first k_changes k_changeField k_changeValue k_changeFrom (fun r13 =>
    zp_Mo_reserve_24 p1 k_today k_first k_changes k_changeField k_changeValue k_changeFrom k_capacity P r11 r13 k_thrown k_reserved k_taken)))
def zp_Mo_join_103 (K59 : Int32 → Int32 → (Nat → Int32) → Prop) (v5 : Int32) (v6 : Int32) (k_group : Nat → Int32) : Prop :=
  K59 v5 (v6 + 1) k_group
def zp_Mo_join_88 (K59 : Int32 → Int32 → (Nat → Int32) → Prop) (v4 : Int32) (v5 : Int32) (v6 : Int32) (k_group : Nat → Int32) : Prop :=
  vp_in v6 30 ∧
  ((¬ (k_group v6.toNatClampNeg) = v4 →
   zp_Mo_join_103 K59 v5 v6 k_group) ∧
  ((k_group v6.toNatClampNeg) = v4 →
   zp_Mo_join_103 K59 (v5 + 1) v6 k_group))
def zp_Mo_join_59 (k_orders : Int32) (P : Int32 → Int32 → (Nat → Int32) → Prop) (v3 : Int32) (v4 : Int32) (k_thrown : Int32) : Nat → Int32 → Int32 → (Nat → Int32) → Prop
  | 0 => fun _ _ _ => False
  | n + 1 => fun v5 v6 k_group =>
  (k_orders ≤ v6 →
   P v5 k_thrown k_group) ∧
  (¬ k_orders ≤ v6 →
   vp_in v6 30 ∧
   ((¬ (k_group v6.toNatClampNeg) = v3 →
    zp_Mo_join_88 (zp_Mo_join_59 k_orders P v3 v4 k_thrown n) v4 v5 v6 k_group) ∧
   ((k_group v6.toNatClampNeg) = v3 →
    vp_in v6 30 ∧
    (zp_Mo_join_88 (zp_Mo_join_59 k_orders P v3 v4 k_thrown n) v4 v5 v6 (upd k_group v6.toNatClampNeg v4)))))
def zp_Mo_join_27 (p1 : Int32) (p2 : Int32) (k_orders : Int32) (P : Int32 → Int32 → (Nat → Int32) → Prop) (s1 : Int32) (k_thrown : Int32) (k_group : Nat → Int32) : Prop :=
  zp_Mo_goes s1 1 1 1 k_thrown (fun r4 w5 =>
   (¬ r4 = 0 →
    vp_in p2 30 ∧
    (∀ y7 : Int32, y7 = k_group p2.toNatClampNeg →
    vp_in p1 30 ∧
    (∀ y8 : Int32, y8 = k_group p1.toNatClampNeg →
    ∃ n, zp_Mo_join_59 k_orders P y7 y8 w5 n 0 0 k_group))) ∧
   (r4 = 0 →
    P 0 w5 k_group))
def zp_Mo_join (p1 : Int32) (p2 : Int32) (k_thrown : Int32) (k_orders : Int32) (k_group : Nat → Int32) (P : Int32 → Int32 → (Nat → Int32) → Prop) : Prop :=
 zp_Mo_isOrder p1 k_orders (fun r9 =>
  (r9 = 0 →
   zp_Mo_join_27 p1 p2 k_orders P 0 k_thrown k_group) ∧
  (¬ r9 = 0 →
   zp_Mo_isOrder p2 k_orders (fun r11 =>
    (r11 = 0 →
     zp_Mo_join_27 p1 p2 k_orders P 0 k_thrown k_group) ∧
    (¬ r11 = 0 →
     (p1 = p2 →
      zp_Mo_join_27 p1 p2 k_orders P 0 k_thrown k_group) ∧
     (¬ p1 = p2 →
      zp_Mo_join_27 p1 p2 k_orders P 1 k_thrown k_group)))))
def zp_Mo_ready_62 (K19 : Int32 → Prop) (v2 : Int32) : Prop :=
  K19 (v2 + 1)
def zp_Mo_ready_19 (p1 : Int32) (k_today : Int32) (k_group : Nat → Int32) (k_items : Int32) (k_orderOf : Nat → Int32) (k_first : Nat → Int32) (k_changes : Nat → Int32) (k_changeField : Nat → Int32) (k_changeValue : Nat → Int32) (k_changeFrom : Nat → Int32) (k_rows : Int32) (k_rowItem : Nat → Int32) (k_rowDay : Nat → Int32) (k_rowKilos : Nat → Int32) (P : Int32 → Int32 → Prop) (k_thrown : Int32) : Nat → Int32 → Prop
  | 0 => fun _ => False
  | n + 1 => fun v2 =>
  (k_items ≤ v2 →
   narrow .boolean (.int 1) = .int 1 ∧ P 1 k_thrown) ∧
  (¬ k_items ≤ v2 →
   vp_in v2 60 ∧
   (vp_in (k_orderOf v2.toNatClampNeg) 30 ∧
   (vp_in p1 30 ∧
   ((¬ (k_group (k_orderOf v2.toNatClampNeg).toNatClampNeg) = (k_group p1.toNatClampNeg) →
    zp_Mo_ready_62 (zp_Mo_ready_19 p1 k_today k_group k_items k_orderOf k_first k_changes k_changeField k_changeValue k_changeFrom k_rows k_rowItem k_rowDay k_rowKilos P k_thrown n) v2) ∧
   ((k_group (k_orderOf v2.toNatClampNeg).toNatClampNeg) = (k_group p1.toNatClampNeg) →
    zp_Mo_stateOn v2 k_today k_first k_changes k_changeField k_changeValue k_changeFrom k_rows k_rowItem k_rowDay k_rowKilos (fun r3 =>
     (2 ≤ r3 →
      zp_Mo_ready_62 (zp_Mo_ready_19 p1 k_today k_group k_items k_orderOf k_first k_changes k_changeField k_changeValue k_changeFrom k_rows k_rowItem k_rowDay k_rowKilos P k_thrown n) v2) ∧
     (¬ 2 ≤ r3 →
      narrow .boolean (.int 0) = .int 0 ∧ P 0 k_thrown)))))))
def zp_Mo_ready (p1 : Int32) (k_thrown : Int32) (k_today : Int32) (k_orders : Int32) (k_group : Nat → Int32) (k_items : Int32) (k_orderOf : Nat → Int32) (k_first : Nat → Int32) (k_changes : Nat → Int32) (k_changeField : Nat → Int32) (k_changeValue : Nat → Int32) (k_changeFrom : Nat → Int32) (k_rows : Int32) (k_rowItem : Nat → Int32) (k_rowDay : Nat → Int32) (k_rowKilos : Nat → Int32) (P : Int32 → Int32 → Prop) : Prop :=
 zp_Mo_isOrder p1 k_orders (fun r5 =>
  zp_Mo_goes r5 1 1 1 k_thrown (fun r6 w7 =>
   (¬ r6 = 0 →
    ∃ n, zp_Mo_ready_19 p1 k_today k_group k_items k_orderOf k_first k_changes k_changeField k_changeValue k_changeFrom k_rows k_rowItem k_rowDay k_rowKilos P w7 n 0) ∧
   (r6 = 0 →
    narrow .boolean (.int 0) = .int 0 ∧ P 0 w7)))
def zp_Mo_late_58 (K25 : Int32 → Int32 → Prop) (v2 : Int32) (v3 : Int32) : Prop :=
  K25 v2 (v3 + 1)
def zp_Mo_late_25 (k_today : Int32) (k_items : Int32) (k_first : Nat → Int32) (k_changes : Nat → Int32) (k_changeField : Nat → Int32) (k_changeValue : Nat → Int32) (k_changeFrom : Nat → Int32) (k_rows : Int32) (k_rowItem : Nat → Int32) (k_rowDay : Nat → Int32) (k_rowKilos : Nat → Int32) (P : Int32 → Int32 → Prop) (k_thrown : Int32) : Nat → Int32 → Int32 → Prop
  | 0 => fun _ _ => False
  | n + 1 => fun v2 v3 =>
  (k_items ≤ v3 →
   P (-1) k_thrown) ∧
  (¬ k_items ≤ v3 →
   zp_Mo_stateOn v3 k_today k_first k_changes k_changeField k_changeValue k_changeFrom k_rows k_rowItem k_rowDay k_rowKilos (fun r2 =>
    (r2 = 1 →
     (¬ v2 = 0 →
      zp_Mo_late_58 (zp_Mo_late_25 k_today k_items k_first k_changes k_changeField k_changeValue k_changeFrom k_rows k_rowItem k_rowDay k_rowKilos P k_thrown n) (v2 + (-1)) v3) ∧
     (v2 = 0 →
      P v3 k_thrown)) ∧
    (¬ r2 = 1 →
     zp_Mo_late_58 (zp_Mo_late_25 k_today k_items k_first k_changes k_changeField k_changeValue k_changeFrom k_rows k_rowItem k_rowDay k_rowKilos P k_thrown n) v2 v3)))
def zp_Mo_late_10 (p1 : Int32) (k_today : Int32) (k_items : Int32) (k_first : Nat → Int32) (k_changes : Nat → Int32) (k_changeField : Nat → Int32) (k_changeValue : Nat → Int32) (k_changeFrom : Nat → Int32) (k_rows : Int32) (k_rowItem : Nat → Int32) (k_rowDay : Nat → Int32) (k_rowKilos : Nat → Int32) (P : Int32 → Int32 → Prop) (s1 : Int32) (k_thrown : Int32) : Prop :=
  zp_Mo_goes s1 1 1 1 k_thrown (fun r5 w6 =>
   (¬ r5 = 0 →
    ∃ n, zp_Mo_late_25 k_today k_items k_first k_changes k_changeField k_changeValue k_changeFrom k_rows k_rowItem k_rowDay k_rowKilos P w6 n p1 0) ∧
   (r5 = 0 →
    P 0 w6))
def zp_Mo_late (p1 : Int32) (k_thrown : Int32) (k_today : Int32) (k_items : Int32) (k_first : Nat → Int32) (k_changes : Nat → Int32) (k_changeField : Nat → Int32) (k_changeValue : Nat → Int32) (k_changeFrom : Nat → Int32) (k_rows : Int32) (k_rowItem : Nat → Int32) (k_rowDay : Nat → Int32) (k_rowKilos : Nat → Int32) (P : Int32 → Int32 → Prop) : Prop :=
 (p1 < 0 →
  zp_Mo_late_10 p1 k_today k_items k_first k_changes k_changeField k_changeValue k_changeFrom k_rows k_rowItem k_rowDay k_rowKilos P 0 k_thrown) ∧
 (¬ p1 < 0 →
  zp_Mo_late_10 p1 k_today k_items k_first k_changes k_changeField k_changeValue k_changeFrom k_rows k_rowItem k_rowDay k_rowKilos P 1 k_thrown)
def zp_Mo_tick_29 (p1 : Int32) (P : Int32 → Int32 → Int32 → Prop) (s1 : Int32) (k_thrown : Int32) (k_today : Int32) : Prop :=
  zp_Mo_goes s1 1 1 1 k_thrown (fun r1 w2 =>
   (¬ r1 = 0 →
    P (k_today + p1) w2 (k_today + p1)) ∧
   (r1 = 0 →
    P 0 w2 k_today))
def zp_Mo_tick (p1 : Int32) (k_thrown : Int32) (k_today : Int32) (P : Int32 → Int32 → Int32 → Prop) : Prop :=
 zp_Mo_in p1 1 1000 (fun r4 =>
  (r4 = 0 →
   zp_Mo_tick_29 p1 P 0 k_thrown k_today) ∧
  (¬ r4 = 0 →
   ((9999 - k_today) < p1 →
    zp_Mo_tick_29 p1 P 0 k_thrown k_today) ∧
   (¬ (9999 - k_today) < p1 →
    zp_Mo_tick_29 p1 P 1 k_thrown k_today)))
