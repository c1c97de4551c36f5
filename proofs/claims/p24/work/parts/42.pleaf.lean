/-! small methods -/
section ZR
variable {P : Int32 → Prop}
theorem zr_isWithin {a lo hi : Int32} (h : P (zb_ (lo.toInt ≤ a.toInt ∧ a.toInt ≤ hi.toInt))) : zp_Or_isWithin a lo hi P := by
  unfold zp_Or_isWithin
  refine ⟨fun h1 => ⟨rfl, ?_⟩, fun h1 => ⟨fun h2 => ⟨rfl, ?_⟩, fun h2 => ⟨rfl, ?_⟩⟩⟩
  · rw [zi_lt] at h1
    rwa [zb_f (by omega)] at h
  · rw [zi_lt] at h1 h2
    rwa [zb_f (by omega)] at h
  · rw [zi_lt] at h1 h2
    rwa [zb_t (by omega)] at h
theorem zr_has {a : Int32} {n : Nat} (hn : n < 2147483648) (h : P (zb_ (0 ≤ a.toInt ∧ a.toInt < n))) : zp_Or_isWithin a 0 (nI n - 1) (fun r => narrow .boolean (.int r) = .int r ∧ P r) := by
  refine zr_isWithin ⟨zb_nar _, ?_⟩
  rw [zb_dec (d := 0 ≤ a.toInt ∧ a.toInt < n)]
  · exact h
  · rw [zi_sub (by rw [zi_n hn, zi_1]; omega) (by rw [zi_n hn, zi_1]; omega), zi_n hn, zi_1, zi_0]; omega
theorem zr_itmHas {a : Int32} {n : Nat} (hn : n < 2147483648) (h : P (zb_ (0 ≤ a.toInt ∧ a.toInt < n))) : zp_Itm_has a (nI n) P := zr_has hn h
theorem zr_ordHas {a : Int32} {n : Nat} (hn : n < 2147483648) (h : P (zb_ (0 ≤ a.toInt ∧ a.toInt < n))) : zp_Ord_has a (nI n) P := zr_has hn h
theorem zr_quoHas {a : Int32} {n : Nat} (hn : n < 2147483648) (h : P (zb_ (0 ≤ a.toInt ∧ a.toInt < n))) : zp_Quo_has a (nI n) P := zr_has hn h
theorem zr_isDayToCome {a t : Int32} (h : P (zb_ (t.toInt ≤ a.toInt ∧ a.toInt ≤ 9999))) : zp_Or_isDayToCome a t P := zr_isWithin ⟨zb_nar _, h⟩
theorem zr_isSize {a : Int32} (h : P (zb_ (1 ≤ a.toInt ∧ a.toInt ≤ 100000))) : zp_Or_isSize a P := zr_isWithin ⟨zb_nar _, h⟩
theorem zr_isWeight {a : Int32} (h : P (zb_ (0 ≤ a.toInt ∧ a.toInt ≤ 1000000))) : zp_Or_isWeight a P := zr_isWithin ⟨zb_nar _, h⟩
theorem zr_isDay {a : Int32} (h : P (zb_ (0 ≤ a.toInt ∧ a.toInt ≤ 9999))) : zp_Or_isDay a P := zr_isWithin ⟨zb_nar _, h⟩
theorem zr_isField {a : Int32} (h : P (zb_ (0 ≤ a.toInt ∧ a.toInt ≤ 5))) : zp_Or_isField a P := zr_isWithin ⟨zb_nar _, h⟩
theorem zr_isRate {a : Int32} (h : P (zb_ (0 ≤ a.toInt ∧ a.toInt ≤ 100000))) : zp_Or_isRate a P := zr_isWithin ⟨zb_nar _, h⟩
theorem zr_needIndex {c : Prop} [Decidable c] {A : Prop} {X : String → Prop} (x : ¬ c → X "java/lang/IndexOutOfBoundsException") (k : c → A) : zp_Or_needIndex (zb_ c) A X := (zb_br x k).symm
theorem zr_needTurn {c : Prop} [Decidable c] {A : Prop} {X : String → Prop} (x : ¬ c → X "java/lang/IllegalStateException") (k : c → A) : zp_Or_needTurn (zb_ c) A X := (zb_br x k).symm
theorem zr_needRange {c : Prop} [Decidable c] {A : Prop} {X : String → Prop} (x : ¬ c → X "java/lang/IllegalArgumentException") (k : c → A) : zp_Or_needRange (zb_ c) A X := (zb_br x k).symm
theorem zr_needMeaning {c : Prop} [Decidable c] {A : Prop} {X : String → Prop} (x : ¬ c → X "java/lang/UnsupportedOperationException") (k : c → A) : zp_Or_needMeaning (zb_ c) A X := (zb_br x k).symm
theorem zr_hasRoom {i c m : Nat} {cc : Nat → Int32} (hi : i < 60) (hc : cc i = nI c) (hc20 : c ≤ 20) (hm : m ≤ 20) (h : P (zb_ (c + m ≤ 20))) : zp_Chg_hasRoom (nI i) (nI m) cc P := by
  unfold zp_Chg_hasRoom
  rw [zi_c (by omega), hc]
  have e : (20 - nI m : Int32) < nI c ↔ ¬ (c + m ≤ 20) := by
    have e20 : (20 : Int32).toInt = 20 := by decide
    rw [zi_lt, zi_sub (by rw [zi_n (by omega), e20]; omega) (by rw [zi_n (by omega), e20]; omega), zi_n (by omega), zi_n (by omega), e20]; omega
  refine ⟨zi_in hi (by omega), fun z => ⟨rfl, ?_⟩, fun z => ⟨rfl, ?_⟩⟩
  · rwa [zb_f (e.mp z)] at h
  · rwa [zb_t (by rw [e] at z; omega)] at h
theorem zr_chgHas {i c : Nat} {j : Int32} {cc : Nat → Int32} (hi : i < 60) (hc : cc i = nI c) (hc20 : c ≤ 20) (h : P (zb_ (0 ≤ j.toInt ∧ j.toInt < c))) : zp_Chg_has (nI i) j cc P := by
  unfold zp_Chg_has
  rw [zi_c (by omega), hc]
  exact ⟨zi_in hi (by omega), zr_has (by omega) h⟩
theorem zr_atFirst {i f : Nat} {fi : Nat → Int32} (hi : i < 60) (hf : f < 6) (h : P (fi (6 * i + f))) : zp_Itm_atFirst (nI i) (nI f) fi P := by
  have e : (nI i * 6 + nI f : Int32) = nI (6 * i + f) := by
    rw [show (6 : Int32) = nI 6 from by decide, zi_nm, zi_na, Nat.mul_comm]
  unfold zp_Itm_atFirst
  rw [e, zi_c (by omega)]
  exact ⟨zi_in (by omega) (by omega), h⟩
theorem zr_begin {Q : (Nat → Int32) → Prop} {i f : Nat} {v : Int32} {fi : Nat → Int32} (hi : i < 60) (hf : f < 6) (h : Q (upd fi (6 * i + f) v)) : zp_Itm_begin (nI i) (nI f) v fi Q := by
  have e : (nI i * 6 + nI f : Int32) = nI (6 * i + f) := by
    rw [show (6 : Int32) = nI 6 from by decide, zi_nm, zi_na, Nat.mul_comm]
  unfold zp_Itm_begin
  rw [e, zi_c (by omega)]
  exact ⟨zi_in (by omega) (by omega), h⟩
theorem zr_isAgreed {i : Nat} {rl : Int32} {ia : Nat → Int32} (hi : i < 60) (h : P (zb_ (ia i ≠ 0 ∧ ia i = rl))) : zp_Itm_isAgreed (nI i) rl ia P := by
  unfold zp_Itm_isAgreed
  rw [zi_c (by omega)]
  refine ⟨zi_in hi (by omega), fun z => ⟨rfl, ?_⟩, fun z => ⟨zi_in hi (by omega), fun y => ⟨rfl, ?_⟩, fun y => ⟨rfl, ?_⟩⟩⟩
  · rwa [zb_f (fun q => q.1 z)] at h
  · rwa [zb_f (fun q => y q.2)] at h
  · rwa [zb_t ⟨z, y⟩] at h
theorem zr_chgAdd {Q : (Nat → Int32) → (Nat → Int32) → (Nat → Int32) → (Nat → Int32) → (Nat → Int32) → Prop} {i c : Nat} {f v g t : Int32} {cf cv cg ct cc : Nat → Int32} (hi : i < 60) (hc : cc i = nI c) (hc20 : c < 20)
    (h : Q (upd cf (20 * i + c) f) (upd cv (20 * i + c) v) (upd cg (20 * i + c) g) (upd ct (20 * i + c) t) (upd cc i (nI (c + 1)))) : zp_Chg_add (nI i) f v g t cf cv cg ct cc Q := by
  have e : (nI i * 20 + nI c : Int32) = nI (20 * i + c) := by
    rw [show (20 : Int32) = nI 20 from by decide, zi_nm, zi_na, Nat.mul_comm]
  unfold zp_Chg_add
  rw [zi_c (by omega), hc, e, zi_n1]
  refine ⟨zi_in hi (by omega), fun y hy => ?_⟩
  subst hy
  rw [zi_c (by omega)]
  have z := zi_in (n := 20 * i + c) (N := 1200) (by omega) (by omega)
  exact ⟨z, z, z, z, zi_in hi (by omega), zi_in hi (by omega), h⟩
/-! the changes of one field of an item, in their order; a field's value on a day -/
def zf_l (cf cv cg : Nat → Int32) (f : Int32) (s : Nat) : Nat → List (Int32 × Int32)
  | 0 => []
  | n + 1 => zf_l cf cv cg f s n ++ (if cf (s + n) = f then [(cv (s + n), cg (s + n))] else [])
def zf_s (d : Int32) (p q : Int32 × Int32) : Int32 × Int32 := if p.2.toInt ≤ q.2.toInt ∧ q.2.toInt ≤ d.toInt then q else p
def zf_v (l : List (Int32 × Int32)) (d a : Int32) : Int32 := (l.foldl (zf_s d) (a, 0)).1
theorem zr_von_loop {cf cv cg : Nat → Int32} {f d a : Int32} {s c : Nat} (hb : s + c ≤ 1200) (h : P (zf_v (zf_l cf cv cg f s c) d a)) :
    ∀ k j : Nat, j + k = c → ∀ v5 v6 : Int32, (zf_l cf cv cg f s j).foldl (zf_s d) (a, 0) = (v5, v6) → zp_Chg_valueOn_28 f d cf cv cg P (nI (s + c)) (k + 1) v5 v6 (nI (s + j)) := by
  intro k
  induction k with
  | zero =>
    intro j hj v5 v6 hv
    refine ⟨fun _ => ?_, fun z => absurd ?_ z⟩
    · obtain rfl : j = c := by omega
      unfold zf_v at h; rw [hv] at h; exact h
    · obtain rfl : j = c := by omega
      exact Int32.le_refl _
  | succ k ih =>
    intro j hj v5 v6 hv
    have hin : vp_in (nI (s + j)) 1200 := zi_in (by omega) (by omega)
    have step : ∀ w5 w6 : Int32, (zf_l cf cv cg f s (j + 1)).foldl (zf_s d) (a, 0) = (w5, w6) → zp_Chg_valueOn_80 (zp_Chg_valueOn_28 f d cf cv cg P (nI (s + c)) (k + 1)) w5 w6 (nI (s + j)) := by
      intro w5 w6 hw
      show zp_Chg_valueOn_28 f d cf cv cg P (nI (s + c)) (k + 1) w5 w6 (nI (s + j) + 1)
      rw [zi_n1]
      exact ih (j + 1) (by omega) w5 w6 hw
    have e : (zf_l cf cv cg f s (j + 1)).foldl (zf_s d) (a, 0) = (if cf (s + j) = f then [(cv (s + j), cg (s + j))] else []).foldl (zf_s d) (v5, v6) := by
      show (zf_l cf cv cg f s j ++ _).foldl (zf_s d) (a, 0) = _
      rw [List.foldl_append, hv]
    refine ⟨fun z => absurd z ?_, fun _ => ⟨hin, ?_⟩⟩
    · rw [zi_le, zi_n (by omega), zi_n (by omega)]; omega
    rw [zi_c (by omega)]
    refine ⟨fun z => step _ _ ?_, fun z => ⟨hin, zr_isWithin (zb_br (fun y => step _ _ ?_) (fun y => ⟨hin, ?_⟩))⟩⟩
    · rw [e, if_neg z]; rfl
    · rw [e, if_pos z]
      show zf_s d (v5, v6) _ = _
      exact if_neg y
    · intro y5 h5
      refine ⟨hin, fun y6 h6 => step _ _ ?_⟩
      subst h5; subst h6
      rw [e, if_pos z]
      show zf_s d (v5, v6) _ = _
      exact if_pos y
def zf_on (fi cf cv cg cc : Nat → Int32) (i f : Nat) (d : Int32) : Int32 := zf_v (zf_l cf cv cg (nI f) (20 * i) (cc i).toNatClampNeg) d (fi (6 * i + f))
theorem zr_valueOn {fi cf cv cg cc : Nat → Int32} {i f c : Nat} {d : Int32} (hi : i < 60) (hf : f < 6) (hc : cc i = nI c) (hc20 : c ≤ 20) (h : P (zf_on fi cf cv cg cc i f d)) : zp_Or_valueOn (nI i) (nI f) d fi cf cv cg cc P := by
  refine zr_atFirst hi hf ?_
  unfold zp_Chg_valueOn
  have e : (nI i * 20 : Int32) = nI (20 * i) := by
    rw [show (20 : Int32) = nI 20 from by decide, zi_nm, Nat.mul_comm]
  intro y7 h7
  refine ⟨zi_in hi (by omega), fun y8 h8 => ⟨c + 1, ?_⟩⟩
  rw [zi_c (by omega), hc] at h8
  subst h7; subst h8
  rw [e, zi_na]
  unfold zf_on at h
  rw [hc, zi_c (by omega)] at h
  exact zr_von_loop (s := 20 * i) (c := c) (by omega) h c 0 (by omega) _ _ rfl
/-- a value is the first one, or a change's -/
theorem zf_fold_mem (d : Int32) : ∀ (l : List (Int32 × Int32)) (p : Int32 × Int32), l.foldl (zf_s d) p = p ∨ l.foldl (zf_s d) p ∈ l
  | [], _ => Or.inl rfl
  | q :: l, p => by
    show List.foldl (zf_s d) (zf_s d p q) l = p ∨ _
    rcases zf_fold_mem d l (zf_s d p q) with h | h
    · rw [List.foldl_cons, h]
      unfold zf_s
      split
      · exact Or.inr List.mem_cons_self
      · exact Or.inl rfl
    · exact Or.inr (List.mem_cons_of_mem _ h)
theorem zf_l_mem {cf cv cg : Nat → Int32} {f : Int32} {s : Nat} {q : Int32 × Int32} : ∀ n : Nat, q ∈ zf_l cf cv cg f s n → ∃ j, j < n ∧ cf (s + j) = f ∧ q = (cv (s + j), cg (s + j))
  | 0, h => absurd h List.not_mem_nil
  | n + 1, h => by
    rcases List.mem_append.mp h with h | h
    · obtain ⟨j, h1, h2⟩ := zf_l_mem n h
      exact ⟨j, by omega, h2⟩
    · split at h
      · rename_i hf
        exact ⟨n, by omega, hf, List.mem_singleton.mp h⟩
      · exact absurd h List.not_mem_nil
end ZR
