def zp_Cal_take (p1 : Int32) (p2 : Int32) (p3 : Int32) (k_taken : Nat → Int32) (k_day : Nat → Int32) (k_kilos : Nat → Int32) (P : (Nat → Int32) → (Nat → Int32) → (Nat → Int32) → Prop) : Prop :=
 vp_in p1 60 ∧
 (vp_in p1 60 ∧
 (vp_in p1 60 ∧
 (P (upd k_taken p1.toNatClampNeg (vp_nar .boolean 1)) (upd k_day p1.toNatClampNeg p2) (upd k_kilos p1.toNatClampNeg p3))))
def zp_Cal_takenOn_38 (K4 : Int32 → Int32 → Prop) (v2 : Int32) (v3 : Int32) : Prop :=
  K4 v2 (v3 + 1)
def zp_Cal_takenOn_4 (p1 : Int32) (k_taken : Nat → Int32) (k_day : Nat → Int32) (k_kilos : Nat → Int32) (P : Int32 → Prop) : Nat → Int32 → Int32 → Prop
  | 0 => fun _ _ => False
  | n + 1 => fun v2 v3 =>
  (60 ≤ v3 →
   P v2) ∧
  (¬ 60 ≤ v3 →
   vp_in v3 60 ∧
   (((k_taken v3.toNatClampNeg) = 0 →
    zp_Cal_takenOn_38 (zp_Cal_takenOn_4 p1 k_taken k_day k_kilos P n) v2 v3) ∧
   (¬ (k_taken v3.toNatClampNeg) = 0 →
    vp_in v3 60 ∧
    ((¬ (k_day v3.toNatClampNeg) = p1 →
     zp_Cal_takenOn_38 (zp_Cal_takenOn_4 p1 k_taken k_day k_kilos P n) v2 v3) ∧
    ((k_day v3.toNatClampNeg) = p1 →
     vp_in v3 60 ∧
     (∀ y4 : Int32, y4 = v2 + (k_kilos v3.toNatClampNeg) →
     zp_Cal_takenOn_38 (zp_Cal_takenOn_4 p1 k_taken k_day k_kilos P n) y4 v3))))))
def zp_Cal_takenOn (p1 : Int32) (k_taken : Nat → Int32) (k_day : Nat → Int32) (k_kilos : Nat → Int32) (P : Int32 → Prop) : Prop :=
 ∃ n, zp_Cal_takenOn_4 p1 k_taken k_day k_kilos P n 0 0
def zp_Cal_fitsInto_33 (K2 : Int32 → Prop) (v2 : Int32) : Prop :=
  K2 (v2 + 1)
def zp_Cal_fitsInto_2 (p1 : Int32) (k_taken : Nat → Int32) (k_day : Nat → Int32) (k_kilos : Nat → Int32) (P : Int32 → Prop) : Nat → Int32 → Prop
  | 0 => fun _ => False
  | n + 1 => fun v2 =>
  (60 ≤ v2 →
   narrow .boolean (.int 1) = .int 1 ∧ P 1) ∧
  (¬ 60 ≤ v2 →
   vp_in v2 60 ∧
   (((k_taken v2.toNatClampNeg) = 0 →
    zp_Cal_fitsInto_33 (zp_Cal_fitsInto_2 p1 k_taken k_day k_kilos P n) v2) ∧
   (¬ (k_taken v2.toNatClampNeg) = 0 →
    vp_in v2 60 ∧
    (zp_Cal_takenOn (k_day v2.toNatClampNeg) k_taken k_day k_kilos (fun r3 =>
     (r3 ≤ p1 →
      zp_Cal_fitsInto_33 (zp_Cal_fitsInto_2 p1 k_taken k_day k_kilos P n) v2) ∧
     (¬ r3 ≤ p1 →
      narrow .boolean (.int 0) = .int 0 ∧ P 0))))))
def zp_Cal_fitsInto (p1 : Int32) (k_taken : Nat → Int32) (k_day : Nat → Int32) (k_kilos : Nat → Int32) (P : Int32 → Prop) : Prop :=
 ∃ n, zp_Cal_fitsInto_2 p1 k_taken k_day k_kilos P n 0
def zp_Cal_latestDayFor_13 (p1 : Int32) (p2 : Int32) (k_taken : Nat → Int32) (k_day : Nat → Int32) (k_kilos : Nat → Int32) (k_kilosADay : Int32) (P : Int32 → Prop) : Nat → Int32 → Prop
  | 0 => fun _ => False
  | n + 1 => fun v4 =>
  (v4 < p2 →
   P (-1)) ∧
  (¬ v4 < p2 →
   zp_Cal_takenOn v4 k_taken k_day k_kilos (fun r2 =>
    ((k_kilosADay - p1) < r2 →
     (zp_Cal_latestDayFor_13 p1 p2 k_taken k_day k_kilos k_kilosADay P n) (v4 + (-1))) ∧
    (¬ (k_kilosADay - p1) < r2 →
     P v4)))
def zp_Cal_latestDayFor (p1 : Int32) (p2 : Int32) (p3 : Int32) (k_taken : Nat → Int32) (k_day : Nat → Int32) (k_kilos : Nat → Int32) (k_kilosADay : Int32) (P : Int32 → Prop) : Prop :=
 (p1 ≤ k_kilosADay →
  ∃ n, zp_Cal_latestDayFor_13 p1 p2 k_taken k_day k_kilos k_kilosADay P n p3) ∧
 (¬ p1 ≤ k_kilosADay →
  P (-1))
def zp_Chg_hasRoom (p1 : Int32) (p2 : Int32) (k_count : Nat → Int32) (P : Int32 → Prop) : Prop :=
 vp_in p1 60 ∧
 (((20 - p2) < (k_count p1.toNatClampNeg) →
  narrow .boolean (.int 0) = .int 0 ∧ P 0) ∧
 (¬ (20 - p2) < (k_count p1.toNatClampNeg) →
  narrow .boolean (.int 1) = .int 1 ∧ P 1))
def zp_Or_isWithin (p1 : Int32) (p2 : Int32) (p3 : Int32) (P : Int32 → Prop) : Prop :=
 (p1 < p2 →
  narrow .boolean (.int 0) = .int 0 ∧ P 0) ∧
 (¬ p1 < p2 →
  (p3 < p1 →
   narrow .boolean (.int 0) = .int 0 ∧ P 0) ∧
  (¬ p3 < p1 →
   narrow .boolean (.int 1) = .int 1 ∧ P 1))
def zp_Chg_has (p1 : Int32) (p2 : Int32) (k_count : Nat → Int32) (P : Int32 → Prop) : Prop :=
 vp_in p1 60 ∧
 (zp_Or_isWithin p2 0 ((k_count p1.toNatClampNeg) - 1) (fun r1 =>
  narrow .boolean (.int r1) = .int r1 ∧ P r1))
def zp_Chg_add (p1 : Int32) (p2 : Int32) (p3 : Int32) (p4 : Int32) (p5 : Int32) (k_field : Nat → Int32) (k_value : Nat → Int32) (k_from : Nat → Int32) (k_told : Nat → Int32) (k_count : Nat → Int32) (P : (Nat → Int32) → (Nat → Int32) → (Nat → Int32) → (Nat → Int32) → (Nat → Int32) → Prop) : Prop :=
 vp_in p1 60 ∧
 (∀ y1 : Int32, y1 = (p1 * 20) + (k_count p1.toNatClampNeg) →
 vp_in y1 1200 ∧
 (vp_in y1 1200 ∧
 (vp_in y1 1200 ∧
 (vp_in y1 1200 ∧
 (vp_in p1 60 ∧
 (vp_in p1 60 ∧
 (P (upd k_field y1.toNatClampNeg p2) (upd k_value y1.toNatClampNeg p3) (upd k_from y1.toNatClampNeg p4) (upd k_told y1.toNatClampNeg p5) (upd k_count p1.toNatClampNeg ((k_count p1.toNatClampNeg) + 1)))))))))
def zp_Chg_look (p1 : Int32) (p2 : Int32) (p3 : Int32) (k_field : Nat → Int32) (k_value : Nat → Int32) (k_from : Nat → Int32) (k_told : Nat → Int32) (P : Int32 → Prop) : Prop :=
 ∀ y1 : Int32, y1 = (p1 * 20) + p2 →
 (p3 = 0 →
  vp_in y1 1200 ∧
  (P (k_field y1.toNatClampNeg))) ∧
 (p3 = 1 →
  vp_in y1 1200 ∧
  (P (k_value y1.toNatClampNeg))) ∧
 (p3 = 2 →
  vp_in y1 1200 ∧
  (P (k_from y1.toNatClampNeg))) ∧
 (¬ p3 = 0 → ¬ p3 = 1 → ¬ p3 = 2 → vp_in y1 1200 ∧
  (P (k_told y1.toNatClampNeg)))
def zp_Chg_valueOn_80 (K28 : Int32 → Int32 → Int32 → Prop) (v5 : Int32) (v6 : Int32) (v9 : Int32) : Prop :=
  K28 v5 v6 (v9 + 1)
def zp_Chg_valueOn_28 (p2 : Int32) (p3 : Int32) (k_field : Nat → Int32) (k_value : Nat → Int32) (k_from : Nat → Int32) (P : Int32 → Prop) (v8 : Int32) : Nat → Int32 → Int32 → Int32 → Prop
  | 0 => fun _ _ _ => False
  | n + 1 => fun v5 v6 v9 =>
  (v8 ≤ v9 →
   P v5) ∧
  (¬ v8 ≤ v9 →
   vp_in v9 1200 ∧
   ((¬ (k_field v9.toNatClampNeg) = p2 →
    zp_Chg_valueOn_80 (zp_Chg_valueOn_28 p2 p3 k_field k_value k_from P v8 n) v5 v6 v9) ∧
   ((k_field v9.toNatClampNeg) = p2 →
    vp_in v9 1200 ∧
    (zp_Or_isWithin (k_from v9.toNatClampNeg) v6 p3 (fun r3 =>
     (r3 = 0 →
      zp_Chg_valueOn_80 (zp_Chg_valueOn_28 p2 p3 k_field k_value k_from P v8 n) v5 v6 v9) ∧
     (¬ r3 = 0 →
      vp_in v9 1200 ∧
      (∀ y5 : Int32, y5 = k_value v9.toNatClampNeg →
      vp_in v9 1200 ∧
      (∀ y6 : Int32, y6 = k_from v9.toNatClampNeg →
      zp_Chg_valueOn_80 (zp_Chg_valueOn_28 p2 p3 k_field k_value k_from P v8 n) y5 y6 v9))))))))
def zp_Chg_valueOn (p1 : Int32) (p2 : Int32) (p3 : Int32) (p4 : Int32) (k_field : Nat → Int32) (k_value : Nat → Int32) (k_from : Nat → Int32) (k_count : Nat → Int32) (P : Int32 → Prop) : Prop :=
 ∀ y7 : Int32, y7 = p1 * 20 →
 vp_in p1 60 ∧
 (∀ y8 : Int32, y8 = y7 + (k_count p1.toNatClampNeg) →
 ∃ n, zp_Chg_valueOn_28 p2 p3 k_field k_value k_from P y8 n p4 0 y7)
def zp_Itm_has (p1 : Int32) (k_count : Int32) (P : Int32 → Prop) : Prop :=
 zp_Or_isWithin p1 0 (k_count - 1) (fun r1 =>
  narrow .boolean (.int r1) = .int r1 ∧ P r1)
def zp_Itm_add (p1 : Int32) (k_orderOf : Nat → Int32) (k_count : Int32) (P : Int32 → (Nat → Int32) → Int32 → Prop) : Prop :=
 vp_in k_count 60 ∧
 (P k_count (upd k_orderOf k_count.toNatClampNeg p1) (k_count + 1))
def zp_Itm_begin (p1 : Int32) (p2 : Int32) (p3 : Int32) (k_first : Nat → Int32) (P : (Nat → Int32) → Prop) : Prop :=
 vp_in ((p1 * 6) + p2) 360 ∧
 (P (upd k_first ((p1 * 6) + p2).toNatClampNeg p3))
def zp_Itm_atFirst (p1 : Int32) (p2 : Int32) (k_first : Nat → Int32) (P : Int32 → Prop) : Prop :=
 vp_in ((p1 * 6) + p2) 360 ∧
 (P (k_first ((p1 * 6) + p2).toNatClampNeg))
def zp_Itm_isAgreed (p1 : Int32) (p2 : Int32) (k_agreedRule : Nat → Int32) (P : Int32 → Prop) : Prop :=
 vp_in p1 60 ∧
 (((k_agreedRule p1.toNatClampNeg) = 0 →
  narrow .boolean (.int 0) = .int 0 ∧ P 0) ∧
 (¬ (k_agreedRule p1.toNatClampNeg) = 0 →
  vp_in p1 60 ∧
  ((¬ (k_agreedRule p1.toNatClampNeg) = p2 →
   narrow .boolean (.int 0) = .int 0 ∧ P 0) ∧
  ((k_agreedRule p1.toNatClampNeg) = p2 →
   narrow .boolean (.int 1) = .int 1 ∧ P 1))))
def zp_Ord_has (p1 : Int32) (k_count : Int32) (P : Int32 → Prop) : Prop :=
 zp_Or_isWithin p1 0 (k_count - 1) (fun r1 =>
  narrow .boolean (.int r1) = .int r1 ∧ P r1)
def zp_Ord_add (p1 : Int32) (p2 : Int32) (k_customer : Nat → Int32) (k_due : Nat → Int32) (k_group : Nat → Int32) (k_count : Int32) (P : Int32 → (Nat → Int32) → (Nat → Int32) → (Nat → Int32) → Int32 → Prop) : Prop :=
 vp_in k_count 30 ∧
 (vp_in k_count 30 ∧
 (vp_in k_count 30 ∧
 (P k_count (upd k_customer k_count.toNatClampNeg p1) (upd k_due k_count.toNatClampNeg p2) (upd k_group k_count.toNatClampNeg k_count) (k_count + 1))))
def zp_Ord_merge_47 (K18 : Int32 → (Nat → Int32) → Prop) (v5 : Int32) (k_group : Nat → Int32) : Prop :=
  K18 (v5 + 1) k_group
def zp_Ord_merge_18 (k_count : Int32) (P : (Nat → Int32) → Prop) (v3 : Int32) (v4 : Int32) : Nat → Int32 → (Nat → Int32) → Prop
  | 0 => fun _ _ => False
  | n + 1 => fun v5 k_group =>
  (k_count ≤ v5 →
   P k_group) ∧
  (¬ k_count ≤ v5 →
   vp_in v5 30 ∧
   ((¬ (k_group v5.toNatClampNeg) = v4 →
    zp_Ord_merge_47 (zp_Ord_merge_18 k_count P v3 v4 n) v5 k_group) ∧
   ((k_group v5.toNatClampNeg) = v4 →
    vp_in v5 30 ∧
    (zp_Ord_merge_47 (zp_Ord_merge_18 k_count P v3 v4 n) v5 (upd k_group v5.toNatClampNeg v3)))))
def zp_Ord_merge (p1 : Int32) (p2 : Int32) (k_group : Nat → Int32) (k_count : Int32) (P : (Nat → Int32) → Prop) : Prop :=
 vp_in p1 30 ∧
 (∀ y3 : Int32, y3 = k_group p1.toNatClampNeg →
 vp_in p2 30 ∧
 (∀ y4 : Int32, y4 = k_group p2.toNatClampNeg →
 ∃ n, zp_Ord_merge_18 k_count P y3 y4 n 0 k_group))
def zp_Ord_areTogether (p1 : Int32) (p2 : Int32) (k_group : Nat → Int32) (P : Int32 → Prop) : Prop :=
 vp_in p1 30 ∧
 (vp_in p2 30 ∧
 ((¬ (k_group p1.toNatClampNeg) = (k_group p2.toNatClampNeg) →
  narrow .boolean (.int 0) = .int 0 ∧ P 0) ∧
 ((k_group p1.toNatClampNeg) = (k_group p2.toNatClampNeg) →
  narrow .boolean (.int 1) = .int 1 ∧ P 1)))
def zp_Ord_countTogether_24 (K4 : Int32 → Int32 → Prop) (v2 : Int32) (v3 : Int32) : Prop :=
  K4 v2 (v3 + 1)
def zp_Ord_countTogether_4 (p1 : Int32) (k_group : Nat → Int32) (k_count : Int32) (P : Int32 → Prop) : Nat → Int32 → Int32 → Prop
  | 0 => fun _ _ => False
  | n + 1 => fun v2 v3 =>
  (k_count ≤ v3 →
   P v2) ∧
  (¬ k_count ≤ v3 →
   zp_Ord_areTogether p1 v3 k_group (fun r2 =>
    (r2 = 0 →
     zp_Ord_countTogether_24 (zp_Ord_countTogether_4 p1 k_group k_count P n) v2 v3) ∧
    (¬ r2 = 0 →
     zp_Ord_countTogether_24 (zp_Ord_countTogether_4 p1 k_group k_count P n) (v2 + 1) v3)))
def zp_Ord_countTogether (p1 : Int32) (k_group : Nat → Int32) (k_count : Int32) (P : Int32 → Prop) : Prop :=
 ∃ n, zp_Ord_countTogether_4 p1 k_group k_count P n 0 0
def zp_Out_add (p1 : Int32) (p2 : Int32) (p3 : Int32) (k_item : Nat → Int32) (k_day : Nat → Int32) (k_kilos : Nat → Int32) (k_total : Nat → Int32) (k_count : Int32) (P : (Nat → Int32) → (Nat → Int32) → (Nat → Int32) → (Nat → Int32) → Int32 → Prop) : Prop :=
 vp_in k_count 200 ∧
 (vp_in k_count 200 ∧
 (vp_in k_count 200 ∧
 (vp_in p1 60 ∧
 (vp_in p1 60 ∧
 (P (upd k_item k_count.toNatClampNeg p1) (upd k_day k_count.toNatClampNeg p2) (upd k_kilos k_count.toNatClampNeg p3) (upd k_total p1.toNatClampNeg ((k_total p1.toNatClampNeg) + p3)) (k_count + 1))))))
def zp_Out_upTo_52 (K15 : Int32 → Int32 → Prop) (v3 : Int32) (v4 : Int32) : Prop :=
  K15 v3 (v4 + (-1))
def zp_Out_upTo_15 (p1 : Int32) (p2 : Int32) (k_item : Nat → Int32) (k_day : Nat → Int32) (k_kilos : Nat → Int32) (P : Int32 → Prop) : Nat → Int32 → Int32 → Prop
  | 0 => fun _ _ => False
  | n + 1 => fun v3 v4 =>
  (v4 < 0 →
   P v3) ∧
  (¬ v4 < 0 →
   vp_in v4 200 ∧
   (((k_day v4.toNatClampNeg) ≤ p2 →
    P v3) ∧
   (¬ (k_day v4.toNatClampNeg) ≤ p2 →
    vp_in v4 200 ∧
    ((¬ (k_item v4.toNatClampNeg) = p1 →
     zp_Out_upTo_52 (zp_Out_upTo_15 p1 p2 k_item k_day k_kilos P n) v3 v4) ∧
    ((k_item v4.toNatClampNeg) = p1 →
     vp_in v4 200 ∧
     (∀ y4 : Int32, y4 = v3 - (k_kilos v4.toNatClampNeg) →
     zp_Out_upTo_52 (zp_Out_upTo_15 p1 p2 k_item k_day k_kilos P n) y4 v4))))))
def zp_Out_upTo (p1 : Int32) (p2 : Int32) (k_item : Nat → Int32) (k_day : Nat → Int32) (k_kilos : Nat → Int32) (k_total : Nat → Int32) (k_count : Int32) (P : Int32 → Prop) : Prop :=
 vp_in p1 60 ∧
 (∀ y5 : Int32, y5 = k_total p1.toNatClampNeg →
 ∀ y6 : Int32, y6 = k_count - 1 →
 ∃ n, zp_Out_upTo_15 p1 p2 k_item k_day k_kilos P n y5 y6)
def zp_Quo_has (p1 : Int32) (k_count : Int32) (P : Int32 → Prop) : Prop :=
 zp_Or_isWithin p1 0 (k_count - 1) (fun r1 =>
  narrow .boolean (.int r1) = .int r1 ∧ P r1)
def zp_Quo_add (p1 : Int32) (p2 : Int32) (p3 : Int64) (k_item : Nat → Int32) (k_until : Nat → Int32) (k_cents : Nat → Int64) (k_count : Int32) (P : Int32 → (Nat → Int32) → (Nat → Int32) → (Nat → Int64) → Int32 → Prop) : Prop :=
 vp_in k_count 60 ∧
 (vp_in k_count 60 ∧
 (vp_in k_count 60 ∧
 (P k_count (upd k_item k_count.toNatClampNeg p1) (upd k_until k_count.toNatClampNeg p2) (vp_updL k_cents k_count.toNatClampNeg p3) (k_count + 1))))
def zp_Quo_look (p1 : Int32) (p2 : Int32) (k_item : Nat → Int32) (k_until : Nat → Int32) (k_accepted : Nat → Int32) (P : Int32 → Prop) : Prop :=
 (p2 = 0 →
  vp_in p1 60 ∧
  (P (k_item p1.toNatClampNeg))) ∧
 (p2 = 1 →
  vp_in p1 60 ∧
  (P (k_until p1.toNatClampNeg))) ∧
 (¬ p2 = 0 → ¬ p2 = 1 → vp_in p1 60 ∧
  (((k_accepted p1.toNatClampNeg) = 0 →
   P 0) ∧
  (¬ (k_accepted p1.toNatClampNeg) = 0 →
   P 1)))
def zp_Rat_set (p1 : Int32) (p2 : Int32) (p3 : Int32) (k_base : Int32) (k_perThousand : Int32) (k_perWidth : Int32) (P : Int32 → Int32 → Int32 → Prop) : Prop :=
 P p1 p2 p3
def zp_Rat_centsFor (p1 : Int32) (p2 : Int32) (k_base : Int32) (k_perThousand : Int32) (k_perWidth : Int32) (P : Int64 → Prop) : Prop :=
 ¬ (1000 : Int64) = 0 ∧
 (∀ y1 : Int64, y1 = (p1.toInt64 + 999) / 1000 →
 P ((k_base.toInt64 + (y1 * k_perThousand.toInt64)) + (p2.toInt64 * k_perWidth.toInt64)))
def zp_Or_needIndex (p1 : Int32) (P : Prop) (X : String → Prop) : Prop :=
 (¬ p1 = 0 →
  P) ∧
 (p1 = 0 →
  X "java/lang/IndexOutOfBoundsException")
def zp_Or_isDayToCome (p1 : Int32) (k_today : Int32) (P : Int32 → Prop) : Prop :=
 zp_Or_isWithin p1 k_today 9999 (fun r1 =>
  narrow .boolean (.int r1) = .int r1 ∧ P r1)
def zp_Or_needRange (p1 : Int32) (P : Prop) (X : String → Prop) : Prop :=
 (¬ p1 = 0 →
  P) ∧
 (p1 = 0 →
  X "java/lang/IllegalArgumentException")
def zp_Or_needMeaning (p1 : Int32) (P : Prop) (X : String → Prop) : Prop :=
 (¬ p1 = 0 →
  P) ∧
 (p1 = 0 →
  X "java/lang/UnsupportedOperationException")
def zp_Or_order_35 (p1 : Int32) (p2 : Int32) (P : Int32 → (Nat → Int32) → (Nat → Int32) → (Nat → Int32) → Int32 → Prop) (X : String → Prop) (s0 : Int32) (k_orders_customer : Nat → Int32) (k_orders_due : Nat → Int32) (k_orders_group : Nat → Int32) (k_orders_count : Int32) : Prop :=
  zp_Or_needMeaning s0 (zp_Ord_add p1 p2 k_orders_customer k_orders_due k_orders_group k_orders_count (fun r1 w2 w3 w4 w5 =>
    P r1 w2 w3 w4 w5)) X
def zp_Or_order (p1 : Int32) (p2 : Int32) (k_orders_customer : Nat → Int32) (k_orders_due : Nat → Int32) (k_orders_group : Nat → Int32) (k_orders_count : Int32) (k_today : Int32) (P : Int32 → (Nat → Int32) → (Nat → Int32) → (Nat → Int32) → Int32 → Prop) (X : String → Prop) : Prop :=
 zp_Or_isWithin p1 0 9 (fun r6 =>
  zp_Or_needIndex r6 (zp_Or_isDayToCome p2 k_today (fun r7 =>
    zp_Or_needRange r7 ((30 ≤ k_orders_count →
      zp_Or_order_35 p1 p2 P X 0 k_orders_customer k_orders_due k_orders_group k_orders_count) ∧
     (¬ 30 ≤ k_orders_count →
      zp_Or_order_35 p1 p2 P X 1 k_orders_customer k_orders_due k_orders_group k_orders_count)) X)) X)
def zp_Or_isSize (p1 : Int32) (P : Int32 → Prop) : Prop :=
 zp_Or_isWithin p1 1 100000 (fun r1 =>
  narrow .boolean (.int r1) = .int r1 ∧ P r1)
def zp_Or_item_58 (p1 : Int32) (p2 : Int32) (p3 : Int32) (p4 : Int32) (k_orders_due : Nat → Int32) (P : Int32 → (Nat → Int32) → (Nat → Int32) → Int32 → Prop) (X : String → Prop) (s0 : Int32) (k_items_orderOf : Nat → Int32) (k_items_first : Nat → Int32) (k_items_count : Int32) : Prop :=
  zp_Or_needMeaning s0 (zp_Itm_add p1 k_items_orderOf k_items_count (fun r1 w2 w3 =>
    zp_Itm_begin r1 0 p2 k_items_first (fun w4 =>
     zp_Itm_begin r1 1 p3 w4 (fun w5 =>
      zp_Itm_begin r1 2 p4 w5 (fun w6 =>
       vp_in p1 30 ∧
       (zp_Itm_begin r1 5 (k_orders_due p1.toNatClampNeg) w6 (fun w7 =>
        P r1 w2 w7 w3))))))) X
def zp_Or_item_38 (p1 : Int32) (p2 : Int32) (p3 : Int32) (p4 : Int32) (k_orders_due : Nat → Int32) (P : Int32 → (Nat → Int32) → (Nat → Int32) → Int32 → Prop) (X : String → Prop) (s0 : Int32) (k_items_orderOf : Nat → Int32) (k_items_first : Nat → Int32) (k_items_count : Int32) : Prop :=
  zp_Or_needRange s0 ((60 ≤ k_items_count →
    zp_Or_item_58 p1 p2 p3 p4 k_orders_due P X 0 k_items_orderOf k_items_first k_items_count) ∧
   (¬ 60 ≤ k_items_count →
    zp_Or_item_58 p1 p2 p3 p4 k_orders_due P X 1 k_items_orderOf k_items_first k_items_count)) X
def zp_Or_item (p1 : Int32) (p2 : Int32) (p3 : Int32) (p4 : Int32) (k_orders_due : Nat → Int32) (k_orders_count : Int32) (k_items_orderOf : Nat → Int32) (k_items_first : Nat → Int32) (k_items_count : Int32) (P : Int32 → (Nat → Int32) → (Nat → Int32) → Int32 → Prop) (X : String → Prop) : Prop :=
 zp_Ord_has p1 k_orders_count (fun r9 =>
  zp_Or_needIndex r9 (zp_Or_isSize p2 (fun r10 =>
    (r10 = 0 →
     zp_Or_item_38 p1 p2 p3 p4 k_orders_due P X 0 k_items_orderOf k_items_first k_items_count) ∧
    (¬ r10 = 0 →
     zp_Or_isSize p3 (fun r12 =>
      (r12 = 0 →
       zp_Or_item_38 p1 p2 p3 p4 k_orders_due P X 0 k_items_orderOf k_items_first k_items_count) ∧
      (¬ r12 = 0 →
       zp_Or_isSize p4 (fun r14 =>
        (r14 = 0 →
         zp_Or_item_38 p1 p2 p3 p4 k_orders_due P X 0 k_items_orderOf k_items_first k_items_count) ∧
        (¬ r14 = 0 →
         zp_Or_item_38 p1 p2 p3 p4 k_orders_due P X 1 k_items_orderOf k_items_first k_items_count))))))) X)
def zp_Or_isWeight (p1 : Int32) (P : Int32 → Prop) : Prop :=
 zp_Or_isWithin p1 0 1000000 (fun r1 =>
  narrow .boolean (.int r1) = .int r1 ∧ P r1)
def zp_Or_weights_35 (p1 : Int32) (p2 : Int32) (p3 : Int32) (k_today : Int32) (P : (Nat → Int32) → (Nat → Int32) → (Nat → Int32) → (Nat → Int32) → (Nat → Int32) → Prop) (X : String → Prop) (s0 : Int32) (k_changes_field : Nat → Int32) (k_changes_value : Nat → Int32) (k_changes_from : Nat → Int32) (k_changes_told : Nat → Int32) (k_changes_count : Nat → Int32) : Prop :=
  zp_Or_needRange s0 (zp_Chg_hasRoom p1 2 k_changes_count (fun r1 =>
    zp_Or_needMeaning r1 (zp_Chg_add p1 3 p2 k_today k_today k_changes_field k_changes_value k_changes_from k_changes_told k_changes_count (fun w2 w3 w4 w5 w6 =>
      zp_Chg_add p1 4 p3 k_today k_today w2 w3 w4 w5 w6 (fun w7 w8 w9 w10 w11 =>
       P w7 w8 w9 w10 w11))) X)) X
def zp_Or_weights (p1 : Int32) (p2 : Int32) (p3 : Int32) (k_items_count : Int32) (k_changes_field : Nat → Int32) (k_changes_value : Nat → Int32) (k_changes_from : Nat → Int32) (k_changes_told : Nat → Int32) (k_changes_count : Nat → Int32) (k_today : Int32) (P : (Nat → Int32) → (Nat → Int32) → (Nat → Int32) → (Nat → Int32) → (Nat → Int32) → Prop) (X : String → Prop) : Prop :=
 zp_Itm_has p1 k_items_count (fun r12 =>
  zp_Or_needIndex r12 (zp_Or_isWeight p2 (fun r13 =>
    (r13 = 0 →
     zp_Or_weights_35 p1 p2 p3 k_today P X 0 k_changes_field k_changes_value k_changes_from k_changes_told k_changes_count) ∧
    (¬ r13 = 0 →
     zp_Or_isWeight p3 (fun r15 =>
      (r15 = 0 →
       zp_Or_weights_35 p1 p2 p3 k_today P X 0 k_changes_field k_changes_value k_changes_from k_changes_told k_changes_count) ∧
      (¬ r15 = 0 →
       (p3 < p2 →
        zp_Or_weights_35 p1 p2 p3 k_today P X 0 k_changes_field k_changes_value k_changes_from k_changes_told k_changes_count) ∧
       (¬ p3 < p2 →
        zp_Or_weights_35 p1 p2 p3 k_today P X 1 k_changes_field k_changes_value k_changes_from k_changes_told k_changes_count)))))) X)
def zp_Or_agree (p1 : Int32) (p2 : Int32) (k_items_agreedRule : Nat → Int32) (k_items_count : Int32) (P : (Nat → Int32) → Prop) (X : String → Prop) : Prop :=
 zp_Itm_has p1 k_items_count (fun r1 =>
  zp_Or_needIndex r1 (zp_Or_isWithin p2 1 99 (fun r2 =>
    zp_Or_needRange r2 (vp_in p1 60 ∧
     (P (upd k_items_agreedRule p1.toNatClampNeg p2))) X)) X)
def zp_Or_needTurn (p1 : Int32) (P : Prop) (X : String → Prop) : Prop :=
 (¬ p1 = 0 →
  P) ∧
 (p1 = 0 →
  X "java/lang/IllegalStateException")
def zp_Or_isValueOf (p1 : Int32) (p2 : Int32) (k_today : Int32) (P : Int32 → Prop) : Prop :=
 (2 < p1 →
  (¬ p1 = 5 →
   zp_Or_isWeight p2 (fun r3 =>
    narrow .boolean (.int r3) = .int r3 ∧ P r3)) ∧
  (p1 = 5 →
   zp_Or_isDayToCome p2 k_today (fun r4 =>
    narrow .boolean (.int r4) = .int r4 ∧ P r4))) ∧
 (¬ 2 < p1 →
  zp_Or_isSize p2 (fun r5 =>
   narrow .boolean (.int r5) = .int r5 ∧ P r5))
def zp_Or_valueOn (p1 : Int32) (p2 : Int32) (p3 : Int32) (k_items_first : Nat → Int32) (k_changes_field : Nat → Int32) (k_changes_value : Nat → Int32) (k_changes_from : Nat → Int32) (k_changes_count : Nat → Int32) (P : Int32 → Prop) : Prop :=
 zp_Itm_atFirst p1 p2 k_items_first (fun r1 =>
  zp_Chg_valueOn p1 p2 p3 r1 k_changes_field k_changes_value k_changes_from k_changes_count (fun r2 =>
   P r2))
def zp_Or_keepsLeastWithinMost (p1 : Int32) (p2 : Int32) (p3 : Int32) (p4 : Int32) (k_items_first : Nat → Int32) (k_changes_field : Nat → Int32) (k_changes_value : Nat → Int32) (k_changes_from : Nat → Int32) (k_changes_count : Nat → Int32) (P : Int32 → Prop) : Prop :=
 (¬ p2 = 3 →
  (¬ p2 = 4 →
   narrow .boolean (.int 1) = .int 1 ∧ P 1) ∧
  (p2 = 4 →
   zp_Or_valueOn p1 3 p4 k_items_first k_changes_field k_changes_value k_changes_from k_changes_count (fun r3 =>
    (p3 < r3 →
     narrow .boolean (.int 0) = .int 0 ∧ P 0) ∧
    (¬ p3 < r3 →
     narrow .boolean (.int 1) = .int 1 ∧ P 1)))) ∧
 (p2 = 3 →
  zp_Or_valueOn p1 4 p4 k_items_first k_changes_field k_changes_value k_changes_from k_changes_count (fun r5 =>
   (r5 < p3 →
    narrow .boolean (.int 0) = .int 0 ∧ P 0) ∧
   (¬ r5 < p3 →
    narrow .boolean (.int 1) = .int 1 ∧ P 1)))
def zp_Or_isDay (p1 : Int32) (P : Int32 → Prop) : Prop :=
 zp_Or_isWithin p1 0 9999 (fun r1 =>
  narrow .boolean (.int r1) = .int r1 ∧ P r1)
def zp_Or_isField (p1 : Int32) (P : Int32 → Prop) : Prop :=
 zp_Or_isWithin p1 0 5 (fun r1 =>
  narrow .boolean (.int r1) = .int r1 ∧ P r1)
def zp_Or_change_118 (p1 : Int32) (p2 : Int32) (p3 : Int32) (p4 : Int32) (k_today : Int32) (P : (Nat → Int32) → (Nat → Int32) → (Nat → Int32) → (Nat → Int32) → (Nat → Int32) → Prop) (X : String → Prop) (s0 : Int32) (k_changes_field : Nat → Int32) (k_changes_value : Nat → Int32) (k_changes_from : Nat → Int32) (k_changes_told : Nat → Int32) (k_changes_count : Nat → Int32) : Prop :=
  zp_Or_needMeaning s0 (zp_Chg_add p1 p2 p3 p4 k_today k_changes_field k_changes_value k_changes_from k_changes_told k_changes_count (fun w1 w2 w3 w4 w5 =>
    P w1 w2 w3 w4 w5)) X
def zp_Or_change_86 (p1 : Int32) (p2 : Int32) (p3 : Int32) (p4 : Int32) (k_items_first : Nat → Int32) (k_today : Int32) (P : (Nat → Int32) → (Nat → Int32) → (Nat → Int32) → (Nat → Int32) → (Nat → Int32) → Prop) (X : String → Prop) (s0 : Int32) (k_changes_field : Nat → Int32) (k_changes_value : Nat → Int32) (k_changes_from : Nat → Int32) (k_changes_told : Nat → Int32) (k_changes_count : Nat → Int32) : Prop :=
  zp_Or_needRange s0 (zp_Or_keepsLeastWithinMost p1 p2 p3 p4 k_items_first k_changes_field k_changes_value k_changes_from k_changes_count (fun r6 =>
    (r6 = 0 →
     zp_Or_change_118 p1 p2 p3 p4 k_today P X 0 k_changes_field k_changes_value k_changes_from k_changes_told k_changes_count) ∧
    (¬ r6 = 0 →
     zp_Chg_hasRoom p1 1 k_changes_count (fun r8 =>
      (r8 = 0 →
       zp_Or_change_118 p1 p2 p3 p4 k_today P X 0 k_changes_field k_changes_value k_changes_from k_changes_told k_changes_count) ∧
      (¬ r8 = 0 →
       zp_Or_change_118 p1 p2 p3 p4 k_today P X 1 k_changes_field k_changes_value k_changes_from k_changes_told k_changes_count))))) X
def zp_Or_change_61 (p1 : Int32) (p2 : Int32) (p3 : Int32) (p4 : Int32) (k_items_first : Nat → Int32) (k_today : Int32) (P : (Nat → Int32) → (Nat → Int32) → (Nat → Int32) → (Nat → Int32) → (Nat → Int32) → Prop) (X : String → Prop) (s0 : Int32) (k_changes_field : Nat → Int32) (k_changes_value : Nat → Int32) (k_changes_from : Nat → Int32) (k_changes_told : Nat → Int32) (k_changes_count : Nat → Int32) : Prop :=
  zp_Or_needTurn s0 (zp_Or_isValueOf p2 p3 k_today (fun r10 =>
    (r10 = 0 →
     zp_Or_change_86 p1 p2 p3 p4 k_items_first k_today P X 0 k_changes_field k_changes_value k_changes_from k_changes_told k_changes_count) ∧
    (¬ r10 = 0 →
     zp_Or_isDay p4 (fun r12 =>
      (r12 = 0 →
       zp_Or_change_86 p1 p2 p3 p4 k_items_first k_today P X 0 k_changes_field k_changes_value k_changes_from k_changes_told k_changes_count) ∧
      (¬ r12 = 0 →
       zp_Or_change_86 p1 p2 p3 p4 k_items_first k_today P X 1 k_changes_field k_changes_value k_changes_from k_changes_told k_changes_count))))) X
def zp_Or_change_23 (p1 : Int32) (p2 : Int32) (p3 : Int32) (p4 : Int32) (p5 : Int32) (k_items_agreedRule : Nat → Int32) (k_items_first : Nat → Int32) (k_outputs_total : Nat → Int32) (k_today : Int32) (P : (Nat → Int32) → (Nat → Int32) → (Nat → Int32) → (Nat → Int32) → (Nat → Int32) → Prop) (X : String → Prop) (s0 : Int32) (k_changes_field : Nat → Int32) (k_changes_value : Nat → Int32) (k_changes_from : Nat → Int32) (k_changes_told : Nat → Int32) (k_changes_count : Nat → Int32) : Prop :=
  zp_Or_needIndex s0 ((2 < p2 →
    zp_Or_change_61 p1 p2 p3 p4 k_items_first k_today P X 1 k_changes_field k_changes_value k_changes_from k_changes_told k_changes_count) ∧
   (¬ 2 < p2 →
    vp_in p1 60 ∧
    (((k_outputs_total p1.toNatClampNeg) = 0 →
     zp_Or_change_61 p1 p2 p3 p4 k_items_first k_today P X 1 k_changes_field k_changes_value k_changes_from k_changes_told k_changes_count) ∧
    (¬ (k_outputs_total p1.toNatClampNeg) = 0 →
     zp_Itm_isAgreed p1 p5 k_items_agreedRule (fun r16 =>
      (r16 = 0 →
       zp_Or_change_61 p1 p2 p3 p4 k_items_first k_today P X 0 k_changes_field k_changes_value k_changes_from k_changes_told k_changes_count) ∧
      (¬ r16 = 0 →
       zp_Or_change_61 p1 p2 p3 p4 k_items_first k_today P X 1 k_changes_field k_changes_value k_changes_from k_changes_told k_changes_count)))))) X
def zp_Or_change (p1 : Int32) (p2 : Int32) (p3 : Int32) (p4 : Int32) (p5 : Int32) (k_items_agreedRule : Nat → Int32) (k_items_first : Nat → Int32) (k_items_count : Int32) (k_changes_field : Nat → Int32) (k_changes_value : Nat → Int32) (k_changes_from : Nat → Int32) (k_changes_told : Nat → Int32) (k_changes_count : Nat → Int32) (k_outputs_total : Nat → Int32) (k_today : Int32) (P : (Nat → Int32) → (Nat → Int32) → (Nat → Int32) → (Nat → Int32) → (Nat → Int32) → Prop) (X : String → Prop) : Prop :=
 zp_Itm_has p1 k_items_count (fun r18 =>
  (r18 = 0 →
   zp_Or_change_23 p1 p2 p3 p4 p5 k_items_agreedRule k_items_first k_outputs_total k_today P X 0 k_changes_field k_changes_value k_changes_from k_changes_told k_changes_count) ∧
  (¬ r18 = 0 →
   zp_Or_isField p2 (fun r20 =>
    (r20 = 0 →
     zp_Or_change_23 p1 p2 p3 p4 p5 k_items_agreedRule k_items_first k_outputs_total k_today P X 0 k_changes_field k_changes_value k_changes_from k_changes_told k_changes_count) ∧
    (¬ r20 = 0 →
     zp_Or_change_23 p1 p2 p3 p4 p5 k_items_agreedRule k_items_first k_outputs_total k_today P X 1 k_changes_field k_changes_value k_changes_from k_changes_told k_changes_count))))
def zp_Or_field_23 (p1 : Int32) (p2 : Int32) (p3 : Int32) (k_items_first : Nat → Int32) (k_changes_field : Nat → Int32) (k_changes_value : Nat → Int32) (k_changes_from : Nat → Int32) (k_changes_count : Nat → Int32) (P : Int32 → Prop) (X : String → Prop) (s0 : Int32) : Prop :=
  zp_Or_needIndex s0 (zp_Or_isDay p3 (fun r1 =>
    zp_Or_needRange r1 (zp_Or_valueOn p1 p2 p3 k_items_first k_changes_field k_changes_value k_changes_from k_changes_count (fun r2 =>
      P r2)) X)) X
def zp_Or_field (p1 : Int32) (p2 : Int32) (p3 : Int32) (k_items_first : Nat → Int32) (k_items_count : Int32) (k_changes_field : Nat → Int32) (k_changes_value : Nat → Int32) (k_changes_from : Nat → Int32) (k_changes_count : Nat → Int32) (P : Int32 → Prop) (X : String → Prop) : Prop :=
 zp_Itm_has p1 k_items_count (fun r3 =>
  (r3 = 0 →
   zp_Or_field_23 p1 p2 p3 k_items_first k_changes_field k_changes_value k_changes_from k_changes_count P X 0) ∧
  (¬ r3 = 0 →
   zp_Or_isField p2 (fun r5 =>
    (r5 = 0 →
     zp_Or_field_23 p1 p2 p3 k_items_first k_changes_field k_changes_value k_changes_from k_changes_count P X 0) ∧
    (¬ r5 = 0 →
     zp_Or_field_23 p1 p2 p3 k_items_first k_changes_field k_changes_value k_changes_from k_changes_count P X 1))))
def zp_Or_history_37 (p1 : Int32) (p2 : Int32) (p3 : Int32) (k_changes_field : Nat → Int32) (k_changes_value : Nat → Int32) (k_changes_from : Nat → Int32) (k_changes_told : Nat → Int32) (P : Int32 → Prop) (X : String → Prop) (s0 : Int32) : Prop :=
  zp_Or_needIndex s0 (zp_Chg_look p1 p2 p3 k_changes_field k_changes_value k_changes_from k_changes_told (fun r1 =>
    P r1)) X
def zp_Or_history (p1 : Int32) (p2 : Int32) (p3 : Int32) (k_items_count : Int32) (k_changes_field : Nat → Int32) (k_changes_value : Nat → Int32) (k_changes_from : Nat → Int32) (k_changes_told : Nat → Int32) (k_changes_count : Nat → Int32) (P : Int32 → Prop) (X : String → Prop) : Prop :=
 zp_Itm_has p1 k_items_count (fun r2 =>
  (r2 = 0 →
   zp_Or_history_37 p1 p2 p3 k_changes_field k_changes_value k_changes_from k_changes_told P X 0) ∧
  (¬ r2 = 0 →
   zp_Chg_has p1 p2 k_changes_count (fun r4 =>
    (r4 = 0 →
     zp_Or_history_37 p1 p2 p3 k_changes_field k_changes_value k_changes_from k_changes_told P X 0) ∧
    (¬ r4 = 0 →
     zp_Or_isWithin p3 0 3 (fun r6 =>
      (r6 = 0 →
       zp_Or_history_37 p1 p2 p3 k_changes_field k_changes_value k_changes_from k_changes_told P X 0) ∧
      (¬ r6 = 0 →
       zp_Or_history_37 p1 p2 p3 k_changes_field k_changes_value k_changes_from k_changes_told P X 1))))))
def zp_Or_copyOfToday_19 (p1 : Int32) (k_changes_field : Nat → Int32) (k_changes_value : Nat → Int32) (k_changes_from : Nat → Int32) (k_changes_count : Nat → Int32) (k_today : Int32) (P : Int32 → (Nat → Int32) → (Nat → Int32) → Int32 → Prop) (v2 : Int32) (k_items_orderOf : Nat → Int32) (k_items_count : Int32) : Nat → Int32 → (Nat → Int32) → Prop
  | 0 => fun _ _ => False
  | n + 1 => fun v3 k_items_first =>
  (6 ≤ v3 →
   P v2 k_items_orderOf k_items_first k_items_count) ∧
  (¬ 6 ≤ v3 →
   zp_Or_valueOn p1 v3 k_today k_items_first k_changes_field k_changes_value k_changes_from k_changes_count (fun r2 =>
    zp_Itm_begin v2 v3 r2 k_items_first (fun w3 =>
     (zp_Or_copyOfToday_19 p1 k_changes_field k_changes_value k_changes_from k_changes_count k_today P v2 k_items_orderOf k_items_count n) (v3 + 1) w3)))
def zp_Or_copyOfToday (p1 : Int32) (k_items_orderOf : Nat → Int32) (k_items_first : Nat → Int32) (k_items_count : Int32) (k_changes_field : Nat → Int32) (k_changes_value : Nat → Int32) (k_changes_from : Nat → Int32) (k_changes_count : Nat → Int32) (k_today : Int32) (P : Int32 → (Nat → Int32) → (Nat → Int32) → Int32 → Prop) : Prop :=
 vp_in p1 60 ∧
 (zp_Itm_add (k_items_orderOf p1.toNatClampNeg) k_items_orderOf k_items_count (fun r4 w5 w6 =>
  ∃ n, zp_Or_copyOfToday_19 p1 k_changes_field k_changes_value k_changes_from k_changes_count k_today P r4 w5 w6 n 0 k_items_first))
def zp_Or_split_80 (p1 : Int32) (p2 : Int32) (k_today : Int32) (P : Int32 → (Nat → Int32) → (Nat → Int32) → Int32 → (Nat → Int32) → (Nat → Int32) → (Nat → Int32) → (Nat → Int32) → (Nat → Int32) → Prop) (X : String → Prop) (v3 : Int32) (s0 : Int32) (k_items_orderOf : Nat → Int32) (k_items_first : Nat → Int32) (k_items_count : Int32) (k_changes_field : Nat → Int32) (k_changes_value : Nat → Int32) (k_changes_from : Nat → Int32) (k_changes_told : Nat → Int32) (k_changes_count : Nat → Int32) : Prop :=
  zp_Or_needMeaning s0 (zp_Or_valueOn p1 3 k_today k_items_first k_changes_field k_changes_value k_changes_from k_changes_count (fun r1 =>
    ∀ y2 : Int32, y2 = (if p2 < r1 then p2 else r1) →
    zp_Or_copyOfToday p1 k_items_orderOf k_items_first k_items_count k_changes_field k_changes_value k_changes_from k_changes_count k_today (fun r3 w4 w5 w6 =>
     zp_Itm_begin r3 3 y2 w5 (fun w7 =>
      zp_Itm_begin r3 4 p2 w7 (fun w8 =>
       zp_Chg_add p1 4 (v3 - p2) k_today k_today k_changes_field k_changes_value k_changes_from k_changes_told k_changes_count (fun w9 w10 w11 w12 w13 =>
        zp_Chg_add p1 3 (r1 - y2) k_today k_today w9 w10 w11 w12 w13 (fun w14 w15 w16 w17 w18 =>
         P r3 w4 w8 w6 w14 w15 w16 w17 w18))))))) X
def zp_Or_split_28 (p1 : Int32) (p2 : Int32) (k_today : Int32) (P : Int32 → (Nat → Int32) → (Nat → Int32) → Int32 → (Nat → Int32) → (Nat → Int32) → (Nat → Int32) → (Nat → Int32) → (Nat → Int32) → Prop) (X : String → Prop) (s0 : Int32) (k_items_orderOf : Nat → Int32) (k_items_first : Nat → Int32) (k_items_count : Int32) (k_changes_field : Nat → Int32) (k_changes_value : Nat → Int32) (k_changes_from : Nat → Int32) (k_changes_told : Nat → Int32) (k_changes_count : Nat → Int32) : Prop :=
  zp_Or_needTurn s0 (zp_Or_valueOn p1 4 k_today k_items_first k_changes_field k_changes_value k_changes_from k_changes_count (fun r19 =>
    zp_Or_isWithin p2 1 r19 (fun r20 =>
     zp_Or_needRange r20 ((60 ≤ k_items_count →
       zp_Or_split_80 p1 p2 k_today P X r19 0 k_items_orderOf k_items_first k_items_count k_changes_field k_changes_value k_changes_from k_changes_told k_changes_count) ∧
      (¬ 60 ≤ k_items_count →
       zp_Chg_hasRoom p1 2 k_changes_count (fun r22 =>
        (r22 = 0 →
         zp_Or_split_80 p1 p2 k_today P X r19 0 k_items_orderOf k_items_first k_items_count k_changes_field k_changes_value k_changes_from k_changes_told k_changes_count) ∧
        (¬ r22 = 0 →
         zp_Or_split_80 p1 p2 k_today P X r19 1 k_items_orderOf k_items_first k_items_count k_changes_field k_changes_value k_changes_from k_changes_told k_changes_count)))) X))) X
def zp_Or_split (p1 : Int32) (p2 : Int32) (k_items_orderOf : Nat → Int32) (k_items_first : Nat → Int32) (k_items_count : Int32) (k_changes_field : Nat → Int32) (k_changes_value : Nat → Int32) (k_changes_from : Nat → Int32) (k_changes_told : Nat → Int32) (k_changes_count : Nat → Int32) (k_outputs_total : Nat → Int32) (k_today : Int32) (P : Int32 → (Nat → Int32) → (Nat → Int32) → Int32 → (Nat → Int32) → (Nat → Int32) → (Nat → Int32) → (Nat → Int32) → (Nat → Int32) → Prop) (X : String → Prop) : Prop :=
 zp_Itm_has p1 k_items_count (fun r24 =>
  zp_Or_needIndex r24 (vp_in p1 60 ∧
   ((¬ (k_outputs_total p1.toNatClampNeg) = 0 →
    zp_Or_split_28 p1 p2 k_today P X 0 k_items_orderOf k_items_first k_items_count k_changes_field k_changes_value k_changes_from k_changes_told k_changes_count) ∧
   ((k_outputs_total p1.toNatClampNeg) = 0 →
    zp_Or_split_28 p1 p2 k_today P X 1 k_items_orderOf k_items_first k_items_count k_changes_field k_changes_value k_changes_from k_changes_told k_changes_count))) X)
def zp_Or_made_55 (p1 : Int32) (p2 : Int32) (k_today : Int32) (P : Int32 → (Nat → Int32) → (Nat → Int32) → (Nat → Int32) → (Nat → Int32) → Int32 → Prop) (X : String → Prop) (s0 : Int32) (k_outputs_item : Nat → Int32) (k_outputs_day : Nat → Int32) (k_outputs_kilos : Nat → Int32) (k_outputs_total : Nat → Int32) (k_outputs_count : Int32) : Prop :=
  zp_Or_needMeaning s0 (zp_Out_add p1 k_today p2 k_outputs_item k_outputs_day k_outputs_kilos k_outputs_total k_outputs_count (fun w1 w2 w3 w4 w5 =>
    vp_in p1 60 ∧
    (P (w4 p1.toNatClampNeg) w1 w2 w3 w4 w5))) X
def zp_Or_made (p1 : Int32) (p2 : Int32) (k_items_count : Int32) (k_outputs_item : Nat → Int32) (k_outputs_day : Nat → Int32) (k_outputs_kilos : Nat → Int32) (k_outputs_total : Nat → Int32) (k_outputs_count : Int32) (k_today : Int32) (P : Int32 → (Nat → Int32) → (Nat → Int32) → (Nat → Int32) → (Nat → Int32) → Int32 → Prop) (X : String → Prop) : Prop :=
 zp_Itm_has p1 k_items_count (fun r6 =>
  zp_Or_needIndex r6 (zp_Or_isWithin p2 1 1000000 (fun r7 =>
    zp_Or_needRange r7 (vp_in p1 60 ∧
     (((1000000000 - p2) < (k_outputs_total p1.toNatClampNeg) →
      zp_Or_made_55 p1 p2 k_today P X 0 k_outputs_item k_outputs_day k_outputs_kilos k_outputs_total k_outputs_count) ∧
     (¬ (1000000000 - p2) < (k_outputs_total p1.toNatClampNeg) →
      (200 ≤ k_outputs_count →
       zp_Or_made_55 p1 p2 k_today P X 0 k_outputs_item k_outputs_day k_outputs_kilos k_outputs_total k_outputs_count) ∧
      (¬ 200 ≤ k_outputs_count →
       zp_Or_made_55 p1 p2 k_today P X 1 k_outputs_item k_outputs_day k_outputs_kilos k_outputs_total k_outputs_count)))) X)) X)
def zp_Or_stateOn (p1 : Int32) (p2 : Int32) (k_items_first : Nat → Int32) (k_changes_field : Nat → Int32) (k_changes_value : Nat → Int32) (k_changes_from : Nat → Int32) (k_changes_count : Nat → Int32) (k_outputs_item : Nat → Int32) (k_outputs_day : Nat → Int32) (k_outputs_kilos : Nat → Int32) (k_outputs_total : Nat → Int32) (k_outputs_count : Int32) (P : Int32 → Prop) : Prop :=
 zp_Out_upTo p1 p2 k_outputs_item k_outputs_day k_outputs_kilos k_outputs_total k_outputs_count (fun r1 =>
  zp_Or_valueOn p1 4 p2 k_items_first k_changes_field k_changes_value k_changes_from k_changes_count (fun r2 =>
   (r1 ≤ r2 →
    zp_Or_valueOn p1 3 p2 k_items_first k_changes_field k_changes_value k_changes_from k_changes_count (fun r4 =>
     (r1 < r4 →
      zp_Or_valueOn p1 5 p2 k_items_first k_changes_field k_changes_value k_changes_from k_changes_count (fun r6 =>
       (r6 < p2 →
        P 1) ∧
       (¬ r6 < p2 →
        P 0))) ∧
     (¬ r1 < r4 →
      P 2))) ∧
   (¬ r1 ≤ r2 →
    P 3)))
def zp_Or_state (p1 : Int32) (p2 : Int32) (k_items_first : Nat → Int32) (k_items_count : Int32) (k_changes_field : Nat → Int32) (k_changes_value : Nat → Int32) (k_changes_from : Nat → Int32) (k_changes_count : Nat → Int32) (k_outputs_item : Nat → Int32) (k_outputs_day : Nat → Int32) (k_outputs_kilos : Nat → Int32) (k_outputs_total : Nat → Int32) (k_outputs_count : Int32) (P : Int32 → Prop) (X : String → Prop) : Prop :=
 zp_Itm_has p1 k_items_count (fun r1 =>
  zp_Or_needIndex r1 (zp_Or_isDay p2 (fun r2 =>
    zp_Or_needRange r2 (zp_Or_stateOn p1 p2 k_items_first k_changes_field k_changes_value k_changes_from k_changes_count k_outputs_item k_outputs_day k_outputs_kilos k_outputs_total k_outputs_count (fun r3 =>
      P r3)) X)) X)
def zp_Or_rest (p1 : Int32) (k_items_first : Nat → Int32) (k_items_count : Int32) (k_changes_field : Nat → Int32) (k_changes_value : Nat → Int32) (k_changes_from : Nat → Int32) (k_changes_count : Nat → Int32) (k_outputs_total : Nat → Int32) (k_today : Int32) (P : Int32 → Prop) (X : String → Prop) : Prop :=
 zp_Itm_has p1 k_items_count (fun r1 =>
  zp_Or_needIndex r1 (zp_Or_valueOn p1 3 k_today k_items_first k_changes_field k_changes_value k_changes_from k_changes_count (fun r2 =>
    vp_in p1 60 ∧
    (P (if 0 < (r2 - (k_outputs_total p1.toNatClampNeg)) then (r2 - (k_outputs_total p1.toNatClampNeg)) else 0)))) X)
def zp_Or_isRate (p1 : Int32) (P : Int32 → Prop) : Prop :=
 zp_Or_isWithin p1 0 100000 (fun r1 =>
  narrow .boolean (.int r1) = .int r1 ∧ P r1)
def zp_Or_costs_26 (p1 : Int32) (p2 : Int32) (p3 : Int32) (P : Int32 → Int32 → Int32 → Prop) (X : String → Prop) (s0 : Int32) (k_rates_base : Int32) (k_rates_perThousand : Int32) (k_rates_perWidth : Int32) : Prop :=
  zp_Or_needRange s0 (zp_Rat_set p1 p2 p3 k_rates_base k_rates_perThousand k_rates_perWidth (fun w1 w2 w3 =>
    P w1 w2 w3)) X
def zp_Or_costs (p1 : Int32) (p2 : Int32) (p3 : Int32) (k_rates_base : Int32) (k_rates_perThousand : Int32) (k_rates_perWidth : Int32) (P : Int32 → Int32 → Int32 → Prop) (X : String → Prop) : Prop :=
 zp_Or_isRate p1 (fun r4 =>
  (r4 = 0 →
   zp_Or_costs_26 p1 p2 p3 P X 0 k_rates_base k_rates_perThousand k_rates_perWidth) ∧
  (¬ r4 = 0 →
   zp_Or_isRate p2 (fun r6 =>
    (r6 = 0 →
     zp_Or_costs_26 p1 p2 p3 P X 0 k_rates_base k_rates_perThousand k_rates_perWidth) ∧
    (¬ r6 = 0 →
     zp_Or_isRate p3 (fun r8 =>
      (r8 = 0 →
       zp_Or_costs_26 p1 p2 p3 P X 0 k_rates_base k_rates_perThousand k_rates_perWidth) ∧
      (¬ r8 = 0 →
       zp_Or_costs_26 p1 p2 p3 P X 1 k_rates_base k_rates_perThousand k_rates_perWidth))))))
def zp_Or_quote_36 (p1 : Int32) (p2 : Int32) (k_items_first : Nat → Int32) (k_changes_field : Nat → Int32) (k_changes_value : Nat → Int32) (k_changes_from : Nat → Int32) (k_changes_count : Nat → Int32) (k_rates_base : Int32) (k_rates_perThousand : Int32) (k_rates_perWidth : Int32) (k_today : Int32) (P : Int32 → (Nat → Int32) → (Nat → Int32) → (Nat → Int64) → Int32 → Prop) (X : String → Prop) (s0 : Int32) (k_quotes_item : Nat → Int32) (k_quotes_until : Nat → Int32) (k_quotes_cents : Nat → Int64) (k_quotes_count : Int32) : Prop :=
  zp_Or_needMeaning s0 (zp_Or_valueOn p1 4 k_today k_items_first k_changes_field k_changes_value k_changes_from k_changes_count (fun r1 =>
    zp_Or_valueOn p1 1 k_today k_items_first k_changes_field k_changes_value k_changes_from k_changes_count (fun r2 =>
     zp_Rat_centsFor r1 r2 k_rates_base k_rates_perThousand k_rates_perWidth (fun r3 =>
      zp_Quo_add p1 p2 r3 k_quotes_item k_quotes_until k_quotes_cents k_quotes_count (fun r4 w5 w6 w7 w8 =>
       P r4 w5 w6 w7 w8))))) X
def zp_Or_quote (p1 : Int32) (p2 : Int32) (k_items_first : Nat → Int32) (k_items_count : Int32) (k_changes_field : Nat → Int32) (k_changes_value : Nat → Int32) (k_changes_from : Nat → Int32) (k_changes_count : Nat → Int32) (k_rates_base : Int32) (k_rates_perThousand : Int32) (k_rates_perWidth : Int32) (k_quotes_item : Nat → Int32) (k_quotes_until : Nat → Int32) (k_quotes_cents : Nat → Int64) (k_quotes_count : Int32) (k_today : Int32) (P : Int32 → (Nat → Int32) → (Nat → Int32) → (Nat → Int64) → Int32 → Prop) (X : String → Prop) : Prop :=
 zp_Itm_has p1 k_items_count (fun r9 =>
  zp_Or_needIndex r9 (zp_Or_isDayToCome p2 k_today (fun r10 =>
    zp_Or_needRange r10 ((60 ≤ k_quotes_count →
      zp_Or_quote_36 p1 p2 k_items_first k_changes_field k_changes_value k_changes_from k_changes_count k_rates_base k_rates_perThousand k_rates_perWidth k_today P X 0 k_quotes_item k_quotes_until k_quotes_cents k_quotes_count) ∧
     (¬ 60 ≤ k_quotes_count →
      zp_Or_quote_36 p1 p2 k_items_first k_changes_field k_changes_value k_changes_from k_changes_count k_rates_base k_rates_perThousand k_rates_perWidth k_today P X 1 k_quotes_item k_quotes_until k_quotes_cents k_quotes_count)) X)) X)
def zp_Or_quoteAt_25 (p1 : Int32) (p2 : Int32) (k_quotes_item : Nat → Int32) (k_quotes_until : Nat → Int32) (k_quotes_accepted : Nat → Int32) (P : Int32 → Prop) (X : String → Prop) (s0 : Int32) : Prop :=
  zp_Or_needIndex s0 (zp_Quo_look p1 p2 k_quotes_item k_quotes_until k_quotes_accepted (fun r1 =>
    P r1)) X
def zp_Or_quoteAt (p1 : Int32) (p2 : Int32) (k_quotes_item : Nat → Int32) (k_quotes_until : Nat → Int32) (k_quotes_accepted : Nat → Int32) (k_quotes_count : Int32) (P : Int32 → Prop) (X : String → Prop) : Prop :=
 zp_Quo_has p1 k_quotes_count (fun r2 =>
  (r2 = 0 →
   zp_Or_quoteAt_25 p1 p2 k_quotes_item k_quotes_until k_quotes_accepted P X 0) ∧
  (¬ r2 = 0 →
   zp_Or_isWithin p2 0 2 (fun r4 =>
    (r4 = 0 →
     zp_Or_quoteAt_25 p1 p2 k_quotes_item k_quotes_until k_quotes_accepted P X 0) ∧
    (¬ r4 = 0 →
     zp_Or_quoteAt_25 p1 p2 k_quotes_item k_quotes_until k_quotes_accepted P X 1))))
def zp_Or_price (p1 : Int32) (k_quotes_cents : Nat → Int64) (k_quotes_count : Int32) (P : Int64 → Prop) (X : String → Prop) : Prop :=
 zp_Quo_has p1 k_quotes_count (fun r1 =>
  zp_Or_needIndex r1 (vp_in p1 60 ∧
   (P (k_quotes_cents p1.toNatClampNeg))) X)
def zp_Or_credit (p1 : Int32) (p2 : Int32) (k_accounts_limit : Nat → Int32) (P : (Nat → Int32) → Prop) (X : String → Prop) : Prop :=
 zp_Or_isWithin p1 0 9 (fun r1 =>
  zp_Or_needIndex r1 (zp_Or_isWithin p2 0 2000000000 (fun r2 =>
    zp_Or_needRange r2 (vp_in p1 10 ∧
     (P (upd k_accounts_limit p1.toNatClampNeg p2))) X)) X)
def zp_Or_accept_113 (p1 : Int32) (P : Int64 → (Nat → Int32) → (Nat → Int64) → Prop) (X : String → Prop) (v2 : Int32) (v3 : Int64) (s0 : Int32) (k_quotes_accepted : Nat → Int32) (k_accounts_used : Nat → Int64) : Prop :=
  zp_Or_needMeaning s0 (vp_in p1 60 ∧
   (vp_in v2 10 ∧
   (P v3 (upd k_quotes_accepted p1.toNatClampNeg (vp_nar .boolean 1)) (vp_updL k_accounts_used v2.toNatClampNeg v3)))) X
def zp_Or_accept_44 (p1 : Int32) (k_orders_customer : Nat → Int32) (k_items_orderOf : Nat → Int32) (k_quotes_item : Nat → Int32) (k_quotes_cents : Nat → Int64) (k_accounts_limit : Nat → Int32) (P : Int64 → (Nat → Int32) → (Nat → Int64) → Prop) (X : String → Prop) (s0 : Int32) (k_quotes_accepted : Nat → Int32) (k_accounts_used : Nat → Int64) : Prop :=
  zp_Or_needTurn s0 (vp_in p1 60 ∧
   (vp_in (k_quotes_item p1.toNatClampNeg) 60 ∧
   (vp_in (k_items_orderOf (k_quotes_item p1.toNatClampNeg).toNatClampNeg) 30 ∧
   (∀ y1 : Int32, y1 = k_orders_customer (k_items_orderOf (k_quotes_item p1.toNatClampNeg).toNatClampNeg).toNatClampNeg →
   vp_in y1 10 ∧
   (vp_in p1 60 ∧
   (∀ y2 : Int64, y2 = (k_accounts_used y1.toNatClampNeg) + (k_quotes_cents p1.toNatClampNeg) →
   vp_in y1 10 ∧
   ((0 < (lg_cmp y2 ((k_accounts_limit y1.toNatClampNeg).toInt64)) →
    zp_Or_accept_113 p1 P X y1 y2 0 k_quotes_accepted k_accounts_used) ∧
   (¬ 0 < (lg_cmp y2 ((k_accounts_limit y1.toNatClampNeg).toInt64)) →
    zp_Or_accept_113 p1 P X y1 y2 1 k_quotes_accepted k_accounts_used)))))))) X
def zp_Or_accept (p1 : Int32) (k_orders_customer : Nat → Int32) (k_items_orderOf : Nat → Int32) (k_quotes_item : Nat → Int32) (k_quotes_until : Nat → Int32) (k_quotes_cents : Nat → Int64) (k_quotes_accepted : Nat → Int32) (k_quotes_count : Int32) (k_accounts_limit : Nat → Int32) (k_accounts_used : Nat → Int64) (k_today : Int32) (P : Int64 → (Nat → Int32) → (Nat → Int64) → Prop) (X : String → Prop) : Prop :=
 zp_Quo_has p1 k_quotes_count (fun r4 =>
  zp_Or_needIndex r4 (vp_in p1 60 ∧
   ((¬ (k_quotes_accepted p1.toNatClampNeg) = 0 →
    zp_Or_accept_44 p1 k_orders_customer k_items_orderOf k_quotes_item k_quotes_cents k_accounts_limit P X 0 k_quotes_accepted k_accounts_used) ∧
   ((k_quotes_accepted p1.toNatClampNeg) = 0 →
    vp_in p1 60 ∧
    (((k_quotes_until p1.toNatClampNeg) < k_today →
     zp_Or_accept_44 p1 k_orders_customer k_items_orderOf k_quotes_item k_quotes_cents k_accounts_limit P X 0 k_quotes_accepted k_accounts_used) ∧
    (¬ (k_quotes_until p1.toNatClampNeg) < k_today →
     zp_Or_accept_44 p1 k_orders_customer k_items_orderOf k_quotes_item k_quotes_cents k_accounts_limit P X 1 k_quotes_accepted k_accounts_used))))) X)
def zp_Or_capacity (p1 : Int32) (k_calendar_taken : Nat → Int32) (k_calendar_day : Nat → Int32) (k_calendar_kilos : Nat → Int32) (k_calendar_kilosADay : Int32) (P : Int32 → Prop) (X : String → Prop) : Prop :=
 zp_Or_isWithin p1 0 100000000 (fun r1 =>
  zp_Or_needRange r1 (zp_Cal_fitsInto p1 k_calendar_taken k_calendar_day k_calendar_kilos (fun r2 =>
    zp_Or_needMeaning r2 (P p1) X)) X)
def zp_Or_reserve_78 (p1 : Int32) (P : Int32 → (Nat → Int32) → (Nat → Int32) → (Nat → Int32) → Prop) (X : String → Prop) (v2 : Int32) (v3 : Int32) (s0 : Int32) (k_calendar_taken : Nat → Int32) (k_calendar_day : Nat → Int32) (k_calendar_kilos : Nat → Int32) : Prop :=
  zp_Or_needMeaning s0 (zp_Cal_take p1 v3 v2 k_calendar_taken k_calendar_day k_calendar_kilos (fun w1 w2 w3 =>
    P v3 w1 w2 w3)) X
def zp_Or_reserve_28 (p1 : Int32) (k_items_first : Nat → Int32) (k_changes_field : Nat → Int32) (k_changes_value : Nat → Int32) (k_changes_from : Nat → Int32) (k_changes_count : Nat → Int32) (k_calendar_kilosADay : Int32) (k_today : Int32) (P : Int32 → (Nat → Int32) → (Nat → Int32) → (Nat → Int32) → Prop) (X : String → Prop) (s0 : Int32) (k_calendar_taken : Nat → Int32) (k_calendar_day : Nat → Int32) (k_calendar_kilos : Nat → Int32) : Prop :=
  zp_Or_needTurn s0 (zp_Or_valueOn p1 4 k_today k_items_first k_changes_field k_changes_value k_changes_from k_changes_count (fun r4 =>
    zp_Or_valueOn p1 5 k_today k_items_first k_changes_field k_changes_value k_changes_from k_changes_count (fun r5 =>
     zp_Cal_latestDayFor r4 k_today r5 k_calendar_taken k_calendar_day k_calendar_kilos k_calendar_kilosADay (fun r6 =>
      (r6 < k_today →
       zp_Or_reserve_78 p1 P X r4 r6 0 k_calendar_taken k_calendar_day k_calendar_kilos) ∧
      (¬ r6 < k_today →
       zp_Or_reserve_78 p1 P X r4 r6 1 k_calendar_taken k_calendar_day k_calendar_kilos))))) X
def zp_Or_reserve (p1 : Int32) (k_items_first : Nat → Int32) (k_items_count : Int32) (k_changes_field : Nat → Int32) (k_changes_value : Nat → Int32) (k_changes_from : Nat → Int32) (k_changes_count : Nat → Int32) (k_calendar_taken : Nat → Int32) (k_calendar_day : Nat → Int32) (k_calendar_kilos : Nat → Int32) (k_calendar_kilosADay : Int32) (k_today : Int32) (P : Int32 → (Nat → Int32) → (Nat → Int32) → (Nat → Int32) → Prop) (X : String → Prop) : Prop :=
 zp_Itm_has p1 k_items_count (fun r8 =>
  zp_Or_needIndex r8 (vp_in p1 60 ∧
   ((¬ (k_calendar_taken p1.toNatClampNeg) = 0 →
    zp_Or_reserve_28 p1 k_items_first k_changes_field k_changes_value k_changes_from k_changes_count k_calendar_kilosADay k_today P X 0 k_calendar_taken k_calendar_day k_calendar_kilos) ∧
   ((k_calendar_taken p1.toNatClampNeg) = 0 →
    zp_Or_reserve_28 p1 k_items_first k_changes_field k_changes_value k_changes_from k_changes_count k_calendar_kilosADay k_today P X 1 k_calendar_taken k_calendar_day k_calendar_kilos))) X)
def zp_Or_join_32 (p1 : Int32) (p2 : Int32) (k_orders_count : Int32) (P : Int32 → (Nat → Int32) → Prop) (X : String → Prop) (s0 : Int32) (k_orders_group : Nat → Int32) : Prop :=
  zp_Or_needIndex s0 (zp_Ord_merge p1 p2 k_orders_group k_orders_count (fun w1 =>
    zp_Ord_countTogether p1 w1 k_orders_count (fun r2 =>
     P r2 w1))) X
def zp_Or_join (p1 : Int32) (p2 : Int32) (k_orders_group : Nat → Int32) (k_orders_count : Int32) (P : Int32 → (Nat → Int32) → Prop) (X : String → Prop) : Prop :=
 zp_Ord_has p1 k_orders_count (fun r3 =>
  (r3 = 0 →
   zp_Or_join_32 p1 p2 k_orders_count P X 0 k_orders_group) ∧
  (¬ r3 = 0 →
   zp_Ord_has p2 k_orders_count (fun r5 =>
    (r5 = 0 →
     zp_Or_join_32 p1 p2 k_orders_count P X 0 k_orders_group) ∧
    (¬ r5 = 0 →
     (p1 = p2 →
      zp_Or_join_32 p1 p2 k_orders_count P X 0 k_orders_group) ∧
     (¬ p1 = p2 →
      zp_Or_join_32 p1 p2 k_orders_count P X 1 k_orders_group)))))
def zp_Or_ready_59 (K13 : Int32 → Prop) (v2 : Int32) : Prop :=
  K13 (v2 + 1)
def zp_Or_ready_13 (p1 : Int32) (k_orders_group : Nat → Int32) (k_items_orderOf : Nat → Int32) (k_items_first : Nat → Int32) (k_items_count : Int32) (k_changes_field : Nat → Int32) (k_changes_value : Nat → Int32) (k_changes_from : Nat → Int32) (k_changes_count : Nat → Int32) (k_outputs_item : Nat → Int32) (k_outputs_day : Nat → Int32) (k_outputs_kilos : Nat → Int32) (k_outputs_total : Nat → Int32) (k_outputs_count : Int32) (k_today : Int32) (P : Int32 → Prop) : Nat → Int32 → Prop
  | 0 => fun _ => False
  | n + 1 => fun v2 =>
  (k_items_count ≤ v2 →
   narrow .boolean (.int 1) = .int 1 ∧ P 1) ∧
  (¬ k_items_count ≤ v2 →
   vp_in v2 60 ∧
   (zp_Ord_areTogether p1 (k_items_orderOf v2.toNatClampNeg) k_orders_group (fun r2 =>
    (r2 = 0 →
     zp_Or_ready_59 (zp_Or_ready_13 p1 k_orders_group k_items_orderOf k_items_first k_items_count k_changes_field k_changes_value k_changes_from k_changes_count k_outputs_item k_outputs_day k_outputs_kilos k_outputs_total k_outputs_count k_today P n) v2) ∧
    (¬ r2 = 0 →
     zp_Or_stateOn v2 k_today k_items_first k_changes_field k_changes_value k_changes_from k_changes_count k_outputs_item k_outputs_day k_outputs_kilos k_outputs_total k_outputs_count (fun r4 =>
      (2 ≤ r4 →
       zp_Or_ready_59 (zp_Or_ready_13 p1 k_orders_group k_items_orderOf k_items_first k_items_count k_changes_field k_changes_value k_changes_from k_changes_count k_outputs_item k_outputs_day k_outputs_kilos k_outputs_total k_outputs_count k_today P n) v2) ∧
      (¬ 2 ≤ r4 →
       narrow .boolean (.int 0) = .int 0 ∧ P 0))))))
def zp_Or_ready (p1 : Int32) (k_orders_group : Nat → Int32) (k_orders_count : Int32) (k_items_orderOf : Nat → Int32) (k_items_first : Nat → Int32) (k_items_count : Int32) (k_changes_field : Nat → Int32) (k_changes_value : Nat → Int32) (k_changes_from : Nat → Int32) (k_changes_count : Nat → Int32) (k_outputs_item : Nat → Int32) (k_outputs_day : Nat → Int32) (k_outputs_kilos : Nat → Int32) (k_outputs_total : Nat → Int32) (k_outputs_count : Int32) (k_today : Int32) (P : Int32 → Prop) (X : String → Prop) : Prop :=
 zp_Ord_has p1 k_orders_count (fun r6 =>
  zp_Or_needIndex r6 (∃ n, zp_Or_ready_13 p1 k_orders_group k_items_orderOf k_items_first k_items_count k_changes_field k_changes_value k_changes_from k_changes_count k_outputs_item k_outputs_day k_outputs_kilos k_outputs_total k_outputs_count k_today P n 0) X)
def zp_Or_late_50 (K16 : Int32 → Int32 → Prop) (v2 : Int32) (v3 : Int32) : Prop :=
  K16 v2 (v3 + 1)
def zp_Or_late_16 (p1 : Int32) (k_items_first : Nat → Int32) (k_items_count : Int32) (k_changes_field : Nat → Int32) (k_changes_value : Nat → Int32) (k_changes_from : Nat → Int32) (k_changes_count : Nat → Int32) (k_outputs_item : Nat → Int32) (k_outputs_day : Nat → Int32) (k_outputs_kilos : Nat → Int32) (k_outputs_total : Nat → Int32) (k_outputs_count : Int32) (k_today : Int32) (P : Int32 → Prop) : Nat → Int32 → Int32 → Prop
  | 0 => fun _ _ => False
  | n + 1 => fun v2 v3 =>
  (k_items_count ≤ v3 →
   P (-1)) ∧
  (¬ k_items_count ≤ v3 →
   zp_Or_stateOn v3 k_today k_items_first k_changes_field k_changes_value k_changes_from k_changes_count k_outputs_item k_outputs_day k_outputs_kilos k_outputs_total k_outputs_count (fun r2 =>
    (¬ r2 = 1 →
     zp_Or_late_50 (zp_Or_late_16 p1 k_items_first k_items_count k_changes_field k_changes_value k_changes_from k_changes_count k_outputs_item k_outputs_day k_outputs_kilos k_outputs_total k_outputs_count k_today P n) v2 v3) ∧
    (r2 = 1 →
     (¬ v2 = p1 →
      zp_Or_late_50 (zp_Or_late_16 p1 k_items_first k_items_count k_changes_field k_changes_value k_changes_from k_changes_count k_outputs_item k_outputs_day k_outputs_kilos k_outputs_total k_outputs_count k_today P n) (v2 + 1) v3) ∧
     (v2 = p1 →
      P v3))))
def zp_Or_late_9 (p1 : Int32) (k_items_first : Nat → Int32) (k_items_count : Int32) (k_changes_field : Nat → Int32) (k_changes_value : Nat → Int32) (k_changes_from : Nat → Int32) (k_changes_count : Nat → Int32) (k_outputs_item : Nat → Int32) (k_outputs_day : Nat → Int32) (k_outputs_kilos : Nat → Int32) (k_outputs_total : Nat → Int32) (k_outputs_count : Int32) (k_today : Int32) (P : Int32 → Prop) (X : String → Prop) (s0 : Int32) : Prop :=
  zp_Or_needIndex s0 (∃ n, zp_Or_late_16 p1 k_items_first k_items_count k_changes_field k_changes_value k_changes_from k_changes_count k_outputs_item k_outputs_day k_outputs_kilos k_outputs_total k_outputs_count k_today P n 0 0) X
def zp_Or_late (p1 : Int32) (k_items_first : Nat → Int32) (k_items_count : Int32) (k_changes_field : Nat → Int32) (k_changes_value : Nat → Int32) (k_changes_from : Nat → Int32) (k_changes_count : Nat → Int32) (k_outputs_item : Nat → Int32) (k_outputs_day : Nat → Int32) (k_outputs_kilos : Nat → Int32) (k_outputs_total : Nat → Int32) (k_outputs_count : Int32) (k_today : Int32) (P : Int32 → Prop) (X : String → Prop) : Prop :=
 (p1 < 0 →
  zp_Or_late_9 p1 k_items_first k_items_count k_changes_field k_changes_value k_changes_from k_changes_count k_outputs_item k_outputs_day k_outputs_kilos k_outputs_total k_outputs_count k_today P X 0) ∧
 (¬ p1 < 0 →
  zp_Or_late_9 p1 k_items_first k_items_count k_changes_field k_changes_value k_changes_from k_changes_count k_outputs_item k_outputs_day k_outputs_kilos k_outputs_total k_outputs_count k_today P X 1)
def zp_Or_tick_28 (p1 : Int32) (P : Int32 → Int32 → Prop) (X : String → Prop) (s0 : Int32) (k_today : Int32) : Prop :=
  zp_Or_needRange s0 (P (k_today + p1) (k_today + p1)) X
def zp_Or_tick (p1 : Int32) (k_today : Int32) (P : Int32 → Int32 → Prop) (X : String → Prop) : Prop :=
 zp_Or_isWithin p1 1 1000 (fun r1 =>
  (r1 = 0 →
   zp_Or_tick_28 p1 P X 0 k_today) ∧
  (¬ r1 = 0 →
   ((9999 - k_today) < p1 →
    zp_Or_tick_28 p1 P X 0 k_today) ∧
   (¬ (9999 - k_today) < p1 →
    zp_Or_tick_28 p1 P X 1 k_today)))
