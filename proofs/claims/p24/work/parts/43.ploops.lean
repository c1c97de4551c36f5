section ZT
variable {P : Int32 → Prop}
/-! kilos taken on a day -/
def zk_t (ka kd kk : Nat → Int32) (d : Int32) (j : Nat) : Int := if ka j ≠ 0 ∧ kd j = d then (kk j).toInt else 0
def zk_s (ka kd kk : Nat → Int32) (d : Int32) : Int := zs_m (zk_t ka kd kk d) 60
def zk_ok (ka kk : Nat → Int32) : Prop := ∀ j, j < 60 → ka j ≠ 0 → 0 ≤ (kk j).toInt ∧ (kk j).toInt ≤ 1000000
theorem zk_tb {ka kd kk : Nat → Int32} (hb : zk_ok ka kk) (d : Int32) (j : Nat) (hj : j < 60) : 0 ≤ zk_t ka kd kk d j ∧ zk_t ka kd kk d j ≤ 1000000 := by
  unfold zk_t
  split
  · rename_i h; exact hb j hj h.1
  · omega
theorem zk_sb {ka kd kk : Nat → Int32} (hb : zk_ok ka kk) (d : Int32) : 0 ≤ zk_s ka kd kk d ∧ zk_s ka kd kk d ≤ 60000000 := by
  have h := zs_b 60 (fun j hj => zk_tb (kd := kd) hb d j hj)
  unfold zk_s; omega
theorem zr_takenOn {ka kd kk : Nat → Int32} {d : Int32} (hb : zk_ok ka kk) (h : ∀ r : Int32, r.toInt = zk_s ka kd kk d → P r) : zp_Cal_takenOn d ka kd kk P := by
  have e60 : (60 : Int32).toInt = 60 := by decide
  have loop : ∀ k j : Nat, j + k = 60 → ∀ v : Int32, v.toInt = zs_m (zk_t ka kd kk d) j → zp_Cal_takenOn_4 d ka kd kk P (k + 1) v (nI j) := by
    intro k
    induction k with
    | zero =>
      intro j hj v hv
      obtain rfl : j = 60 := by omega
      exact ⟨fun _ => h v hv, fun z => absurd (Int32.le_refl _) z⟩
    | succ k ih =>
      intro j hj v hv
      have hin : vp_in (nI j) 60 := zi_in (by omega) (by omega)
      have hs := zs_b j (fun i hi => zk_tb (kd := kd) hb d i (by omega))
      have ht := zk_tb (kd := kd) hb d j (by omega)
      have step : ∀ w : Int32, w.toInt = zs_m (zk_t ka kd kk d) j + zk_t ka kd kk d j → zp_Cal_takenOn_38 (zp_Cal_takenOn_4 d ka kd kk P (k + 1)) w (nI j) := by
        intro w hw
        show zp_Cal_takenOn_4 d ka kd kk P (k + 1) w (nI j + 1)
        rw [zi_n1]
        exact ih (j + 1) (by omega) w hw
      refine ⟨fun z => absurd z ?_, fun _ => ⟨hin, ?_⟩⟩
      · rw [zi_le, zi_n (by omega), e60]; omega
      rw [zi_c (by omega)]
      refine ⟨fun z => step v ?_, fun z => ⟨hin, fun y => step v ?_, fun y => ⟨hin, fun w hw => step w ?_⟩⟩⟩
      · rw [hv, zk_t, if_neg (fun q => q.1 z)]; omega
      · rw [hv, zk_t, if_neg (fun q => y q.2)]; omega
      · have et : zk_t ka kd kk d j = (kk j).toInt := if_pos ⟨z, y⟩
        rw [et] at ht ⊢
        rw [hw, zi_add (by omega) (by omega), hv]
  have z := loop 60 0 (by omega) 0 zi_0
  rw [zi_n0] at z
  exact ⟨_, z⟩
theorem zr_fitsInto {ka kd kk : Nat → Int32} {p : Int32} (hb : zk_ok ka kk) (h1 : (∀ j, j < 60 → ka j ≠ 0 → zk_s ka kd kk (kd j) ≤ p.toInt) → P 1)
    (h0 : (∃ j, j < 60 ∧ ka j ≠ 0 ∧ p.toInt < zk_s ka kd kk (kd j)) → P 0) : zp_Cal_fitsInto p ka kd kk P := by
  have e60 : (60 : Int32).toInt = 60 := by decide
  have loop : ∀ k j : Nat, j + k = 60 → (∀ i, i < j → ka i ≠ 0 → zk_s ka kd kk (kd i) ≤ p.toInt) → zp_Cal_fitsInto_2 p ka kd kk P (k + 1) (nI j) := by
    intro k
    induction k with
    | zero =>
      intro j hj hv
      obtain rfl : j = 60 := by omega
      exact ⟨fun _ => ⟨rfl, h1 hv⟩, fun z => absurd (Int32.le_refl _) z⟩
    | succ k ih =>
      intro j hj hv
      have hin : vp_in (nI j) 60 := zi_in (by omega) (by omega)
      have step : (ka j ≠ 0 → zk_s ka kd kk (kd j) ≤ p.toInt) → zp_Cal_fitsInto_33 (zp_Cal_fitsInto_2 p ka kd kk P (k + 1)) (nI j) := by
        intro hw
        show zp_Cal_fitsInto_2 p ka kd kk P (k + 1) (nI j + 1)
        rw [zi_n1]
        refine ih (j + 1) (by omega) (fun i hi => ?_)
        by_cases hij : i = j
        · subst hij; exact hw
        · exact hv i (by omega)
      refine ⟨fun z => absurd z ?_, fun _ => ⟨hin, ?_⟩⟩
      · rw [zi_le, zi_n (by omega), e60]; omega
      rw [zi_c (by omega)]
      refine ⟨fun z => step (fun y => absurd z y), fun z => ⟨hin, zr_takenOn hb (fun r hr => ⟨fun y => step (fun _ => ?_), fun y => ⟨rfl, h0 ⟨j, by omega, z, ?_⟩⟩⟩)⟩⟩
      · rw [zi_le] at y; omega
      · rw [zi_le] at y; omega
  have z := loop 60 0 (by omega) (fun i hi => absurd hi (Nat.not_lt_zero i))
  rw [zi_n0] at z
  exact ⟨_, z⟩
theorem zr_latest {ka kd kk : Nat → Int32} {S : Int32 → Int} {kl : Int32} {t l : Nat} {cap : Int32} (hS : ∀ (d : Int32) (Q : Int32 → Prop), (∀ r : Int32, r.toInt = S d → Q r) → zp_Cal_takenOn d ka kd kk Q) (hS0 : ∀ d : Int32, 0 ≤ S d)
    (hk : 0 ≤ kl.toInt ∧ kl.toInt ≤ 1000000) (hc : 0 ≤ cap.toInt ∧ cap.toInt ≤ 100000000) (ht : t ≤ 9999) (hl : l ≤ 9999)
    (h1 : ∀ d : Nat, t ≤ d → d ≤ l → S (nI d) + kl.toInt ≤ cap.toInt → (∀ e : Nat, d < e → e ≤ l → cap.toInt < S (nI e) + kl.toInt) → P (nI d))
    (h0 : (∀ e : Nat, t ≤ e → e ≤ l → cap.toInt < S (nI e) + kl.toInt) → P (-1)) : zp_Cal_latestDayFor kl (nI t) (nI l) ka kd kk cap P := by
  refine ⟨fun z => ?_, fun z => h0 (fun e _ _ => ?_)⟩
  · have loop : ∀ k : Nat, ∀ d : Int32, d.toInt + 1 = (k : Int) + t → d.toInt ≤ l → (∀ e : Nat, d.toInt < e → e ≤ l → cap.toInt < S (nI e) + kl.toInt) → zp_Cal_latestDayFor_13 kl (nI t) ka kd kk cap P (k + 1) d := by
      intro k
      induction k with
      | zero =>
        intro d hd hdl hv
        refine ⟨fun _ => h0 (fun e h1 h2 => hv e (by omega) h2), fun y => absurd ?_ y⟩
        rw [zi_lt, zi_n (by omega)]; omega
      | succ k ih =>
        intro d hd hdl hv
        obtain ⟨j, hj, hj2, rfl⟩ := zi_of (x := d) (by omega)
        rw [zi_n hj2] at hd hdl hv
        obtain ⟨w, ew, hw⟩ := zi_dec hj2
        have goal : (∀ e : Nat, (j : Int) - 1 < e → e ≤ l → cap.toInt < S (nI e) + kl.toInt) → zp_Cal_latestDayFor_13 kl (nI t) ka kd kk cap P (k + 1) (nI j + (-1)) := by
          intro hv'
          rw [ew]
          exact ih w (by omega) (by omega) (fun e h1 h2 => hv' e (by omega) h2)
        clear ew hw
        refine ⟨fun y => ?_, fun y => hS _ _ (fun r hr => ?_)⟩
        · rw [zi_lt, zi_n hj2, zi_n (by omega)] at y; omega
        have es : (cap - kl).toInt = cap.toInt - kl.toInt := zi_sub (by omega) (by omega)
        refine ⟨fun w => goal (fun e h1 h2 => ?_), fun w => h1 j (by omega) (by omega) ?_ (fun e h1 h2 => hv e (by omega) h2)⟩
        · rw [zi_lt, es, hr] at w
          by_cases he : e = j
          · subst he; omega
          · exact hv e (by omega) h2
        · rw [zi_lt, es, hr] at w
          omega
    by_cases hlt : t ≤ l
    · refine ⟨(l + 1 - t) + 1, loop (l + 1 - t) (nI l) (by rw [zi_n (by omega)]; omega) (by rw [zi_n (by omega)]; omega) (fun e h1 h2 => ?_)⟩
      rw [zi_n (by omega)] at h1; omega
    · refine ⟨1, fun _ => h0 (fun e h1 h2 => by omega), fun y => absurd ?_ y⟩
      rw [zi_lt, zi_n (by omega), zi_n (by omega)]; omega
  · rw [zi_le] at z
    have := hS0 (nI e)
    omega
theorem zr_latestDayFor {ka kd kk : Nat → Int32} {kl : Int32} {t l : Nat} {cap : Int32} (hb : zk_ok ka kk) (hk : 0 ≤ kl.toInt ∧ kl.toInt ≤ 1000000) (hc : 0 ≤ cap.toInt ∧ cap.toInt ≤ 100000000) (ht : t ≤ 9999) (hl : l ≤ 9999)
    (h1 : ∀ d : Nat, t ≤ d → d ≤ l → zk_s ka kd kk (nI d) + kl.toInt ≤ cap.toInt → (∀ e : Nat, d < e → e ≤ l → cap.toInt < zk_s ka kd kk (nI e) + kl.toInt) → P (nI d))
    (h0 : (∀ e : Nat, t ≤ e → e ≤ l → cap.toInt < zk_s ka kd kk (nI e) + kl.toInt) → P (-1)) : zp_Cal_latestDayFor kl (nI t) (nI l) ka kd kk cap P :=
  zr_latest (S := zk_s ka kd kk) (fun _ _ h => zr_takenOn hb h) (fun d => (zk_sb hb d).1) hk hc ht hl h1 h0
/-! groups -/
theorem zr_merge {Q : (Nat → Int32) → Prop} {og : Nat → Int32} {a b n : Nat} (hn : n ≤ 30) (ha : a < n) (hb : b < n) (h : Q (fun j => if j < n ∧ og j = og b then og a else og j)) : zp_Ord_merge (nI a) (nI b) og (nI n) Q := by
  refine ⟨zi_in (by omega) (by omega), fun y3 h3 => ⟨zi_in (by omega) (by omega), fun y4 h4 => ⟨n + 1, ?_⟩⟩⟩
  rw [zi_c (by omega)] at h3 h4
  subst h3; subst h4
  have loop : ∀ k j : Nat, j + k = n → zp_Ord_merge_18 (nI n) Q (og a) (og b) (k + 1) (nI j) (fun i => if i < j ∧ og i = og b then og a else og i) := by
    intro k
    induction k with
    | zero =>
      intro j hj
      obtain rfl : j = n := by omega
      exact ⟨fun _ => h, fun z => absurd (Int32.le_refl _) z⟩
    | succ k ih =>
      intro j hj
      have hin : vp_in (nI j) 30 := zi_in (by omega) (by omega)
      refine ⟨fun z => absurd z ?_, fun _ => ⟨hin, ?_⟩⟩
      · rw [zi_le, zi_n (by omega), zi_n (by omega)]; omega
      rw [zi_c (by omega)]
      have ej : (if j < j ∧ og j = og b then og a else og j) = og j := if_neg (by omega)
      show (¬ (if j < j ∧ og j = og b then og a else og j) = og b → _) ∧ ((if j < j ∧ og j = og b then og a else og j) = og b → _)
      rw [ej]
      refine ⟨fun z => ?_, fun z => ⟨hin, ?_⟩⟩
      · show zp_Ord_merge_18 (nI n) Q (og a) (og b) (k + 1) (nI j + 1) _
        rw [zi_n1]
        have := ih (j + 1) (by omega)
        have ef : (fun i => if i < j + 1 ∧ og i = og b then og a else og i) = (fun i => if i < j ∧ og i = og b then og a else og i) := by
          funext i
          by_cases hi : i = j
          · subst hi; rw [if_neg (fun q => z q.2), if_neg (fun q => z q.2)]
          · by_cases h2 : i < j ∧ og i = og b
            · rw [if_pos h2, if_pos ⟨by omega, h2.2⟩]
            · rw [if_neg h2, if_neg (fun q => h2 ⟨by omega, q.2⟩)]
        rw [ef] at this; exact this
      · show zp_Ord_merge_18 (nI n) Q (og a) (og b) (k + 1) (nI j + 1) _
        rw [zi_n1]
        have := ih (j + 1) (by omega)
        have ef : (fun i => if i < j + 1 ∧ og i = og b then og a else og i) = upd (fun i => if i < j ∧ og i = og b then og a else og i) j (og a) := by
          funext i
          by_cases hi : i = j
          · subst hi; rw [up_s, if_pos ⟨by omega, z⟩]
          · rw [up_n _ _ hi]
            by_cases h2 : i < j ∧ og i = og b
            · rw [if_pos h2, if_pos ⟨by omega, h2.2⟩]
            · rw [if_neg h2, if_neg (fun q => h2 ⟨by omega, q.2⟩)]
        rw [ef] at this; exact this
  have := loop n 0 (by omega)
  have ef : (fun i => if i < 0 ∧ og i = og b then og a else og i) = og := by
    funext i; rw [if_neg (by omega)]
  rw [ef] at this; exact this
theorem zr_areTogether {og : Nat → Int32} {a b : Nat} (ha : a < 30) (hb : b < 30) (h : P (zb_ (og a = og b))) : zp_Ord_areTogether (nI a) (nI b) og P := by
  unfold zp_Ord_areTogether
  rw [zi_c (by omega), zi_c (by omega)]
  refine ⟨zi_in ha (by omega), zi_in hb (by omega), fun z => ⟨rfl, ?_⟩, fun z => ⟨rfl, ?_⟩⟩
  · rwa [zb_f z] at h
  · rwa [zb_t z] at h
def zg_t (og : Nat → Int32) (a j : Nat) : Int := if og a = og j then 1 else 0
theorem zr_countTogether {og : Nat → Int32} {a n : Nat} (hn : n ≤ 30) (ha : a < n) (h : ∀ r : Int32, r.toInt = zs_m (zg_t og a) n → P r) : zp_Ord_countTogether (nI a) og (nI n) P := by
  have hz : ∀ j, 0 ≤ zg_t og a j ∧ zg_t og a j ≤ 1 := fun j => by unfold zg_t; split <;> omega
  have loop : ∀ k j : Nat, j + k = n → ∀ v : Int32, v.toInt = zs_m (zg_t og a) j → zp_Ord_countTogether_4 (nI a) og (nI n) P (k + 1) v (nI j) := by
    intro k
    induction k with
    | zero =>
      intro j hj v hv
      obtain rfl : j = n := by omega
      exact ⟨fun _ => h v hv, fun z => absurd (Int32.le_refl _) z⟩
    | succ k ih =>
      intro j hj v hv
      have step : ∀ w : Int32, w.toInt = zs_m (zg_t og a) j + zg_t og a j → zp_Ord_countTogether_24 (zp_Ord_countTogether_4 (nI a) og (nI n) P (k + 1)) w (nI j) := by
        intro w hw
        show zp_Ord_countTogether_4 (nI a) og (nI n) P (k + 1) w (nI j + 1)
        rw [zi_n1]
        exact ih (j + 1) (by omega) w hw
      have hs := zs_b j (fun i _ => hz i)
      refine ⟨fun z => absurd z ?_, fun _ => zr_areTogether (by omega) (by omega) (zb_br (fun z => step v ?_) (fun z => step _ ?_))⟩
      · rw [zi_le, zi_n (by omega), zi_n (by omega)]; omega
      · rw [hv, zg_t, if_neg z]; omega
      · rw [zi_add (by rw [hv, zi_1]; omega) (by rw [hv, zi_1]; omega), hv, zg_t, if_pos z, zi_1]
  have z := loop n 0 (by omega) 0 zi_0
  rw [zi_n0] at z
  exact ⟨_, z⟩
/-! what was made of an item up to a day -/
def zu_a (ui uk : Nat → Int32) (i : Int32) (j : Nat) : Int := if ui j = i then (uk j).toInt else 0
def zu_d (ui ud uk : Nat → Int32) (i d : Int32) (j : Nat) : Int := if ui j = i ∧ (ud j).toInt ≤ d.toInt then (uk j).toInt else 0
theorem zr_upTo {ui ud uk ut : Nat → Int32} {i n : Nat} {d : Int32} (hi : i < 60) (hn : n ≤ 200) (hk : ∀ j, j < n → 0 ≤ (uk j).toInt ∧ (uk j).toInt ≤ 1000000) (hs : ∀ j k, j ≤ k → k < n → (ud j).toInt ≤ (ud k).toInt)
    (ht : (ut i).toInt = zs_m (zu_a ui uk (nI i)) n) (h : ∀ r : Int32, r.toInt = zs_m (zu_d ui ud uk (nI i) d) n → P r) : zp_Out_upTo (nI i) d ui ud uk ut (nI n) P := by
  have hz : ∀ j, j < n → 0 ≤ zu_a ui uk (nI i) j ∧ zu_a ui uk (nI i) j ≤ 1000000 := fun j hj => by
    unfold zu_a; split
    · exact hk j hj
    · omega
  have loop : ∀ k : Nat, k ≤ n → ∀ v w : Int32, w.toInt = (k : Int) - 1 → v.toInt = zs_m (zu_a ui uk (nI i)) k → (∀ j, k ≤ j → j < n → d.toInt < (ud j).toInt) → zp_Out_upTo_15 (nI i) d ui ud uk P (k + 1) v w := by
    intro k
    induction k with
    | zero =>
      intro hkn v w hw hv hd
      refine ⟨fun _ => h v ?_, fun z => absurd ?_ z⟩
      · rw [zs_z 0 n (by omega) (fun j h1 h2 => ?_)]
        · exact hv
        · have := hd j h1 h2
          rw [zu_d, if_neg (by omega)]
      · rw [zi_lt, hw, zi_0]; omega
    | succ k ih =>
      intro hkn v w hw hv hd
      obtain ⟨m, hm, hm2, rfl⟩ := zi_of (x := w) (by omega)
      rw [zi_n hm2] at hw
      obtain rfl : m = k := by omega
      have hin : vp_in (nI m) 200 := zi_in (by omega) (by omega)
      refine ⟨fun z => absurd z ?_, fun _ => ⟨hin, ?_⟩⟩
      · rw [zi_lt, zi_n hm2, zi_0]; omega
      rw [zi_c hm2]
      refine ⟨fun z => h v ?_, fun z => ⟨hin, ?_⟩⟩
      · rw [zi_le] at z
        rw [zs_z (m + 1) n (by omega) (fun j h1 h2 => ?_), hv]
        · refine zs_e (m + 1) (fun j hj => ?_)
          have h3 := hs j m (by omega) (by omega)
          unfold zu_a zu_d
          by_cases he : ui j = nI i
          · rw [if_pos he, if_pos ⟨he, by omega⟩]
          · rw [if_neg he, if_neg (fun q => he q.1)]
        · have := hd j h1 h2
          rw [zu_d, if_neg (by omega)]
      · rw [zi_le] at z
        have hd' : ∀ j, m ≤ j → j < n → d.toInt < (ud j).toInt := fun j h1 h2 => by
          by_cases hj : j = m
          · subst hj; omega
          · exact hd j (by omega) h2
        obtain ⟨w, ew, hw2⟩ := zi_dec hm2
        have goal : ∀ v' : Int32, v'.toInt = zs_m (zu_a ui uk (nI i)) m → zp_Out_upTo_52 (zp_Out_upTo_15 (nI i) d ui ud uk P (m + 1)) v' (nI m) := by
          intro v' hv'
          show zp_Out_upTo_15 (nI i) d ui ud uk P (m + 1) v' (nI m + (-1))
          rw [ew]
          exact ih (by omega) v' w hw2 hv' hd'
        clear ew hw2
        have hv' : v.toInt = zs_m (zu_a ui uk (nI i)) m + zu_a ui uk (nI i) m := hv
        have hb := zs_b m (fun j hj => hz j (by omega))
        have hb2 := hz m (by omega)
        refine ⟨fun y => goal v ?_, fun y => ⟨hin, fun y4 h4 => goal y4 ?_⟩⟩
        · rw [hv', zu_a, if_neg y]; omega
        · have ea : zu_a ui uk (nI i) m = (uk m).toInt := if_pos y
          rw [ea] at hv' hb2
          rw [h4, zi_sub (by omega) (by omega)]; omega
  refine ⟨zi_in hi (by omega), fun y5 h5 y6 h6 => ⟨n + 1, ?_⟩⟩
  rw [zi_c (by omega)] at h5
  subst h5; subst h6
  refine loop n (by omega) _ _ ?_ ht (fun j h1 h2 => by omega)
  rw [zi_sub (by rw [zi_n (by omega), zi_1]; omega) (by rw [zi_n (by omega), zi_1]; omega), zi_n (by omega), zi_1]
end ZT
