section ZM
variable {P : Int32 → Prop}
/-! an item's state on a day -/
def zt_s (m most least due day : Int) : Int32 := if most < m then 3 else if least ≤ m then 2 else if day ≤ due then 0 else 1
theorem zr_stateOn {fi cf cv cg cc ui ud uk ut : Nat → Int32} {un d : Int32} {i c : Nat} {U : Int} (hi : i < 60) (hc : cc i = nI c) (hc20 : c ≤ 20)
    (hu : ∀ Q : Int32 → Prop, (∀ r : Int32, r.toInt = U → Q r) → zp_Out_upTo (nI i) d ui ud uk ut un Q)
    (h : P (zt_s U (zf_on fi cf cv cg cc i 4 d).toInt (zf_on fi cf cv cg cc i 3 d).toInt (zf_on fi cf cv cg cc i 5 d).toInt d.toInt)) : zp_Or_stateOn (nI i) d fi cf cv cg cc ui ud uk ut un P := by
  refine hu _ (fun r hr => zr_valueOn (f := 4) hi (by omega) hc hc20 ⟨fun z => zr_valueOn (f := 3) hi (by omega) hc hc20 ⟨fun y => zr_valueOn (f := 5) hi (by omega) hc hc20 ⟨fun x => ?_, fun x => ?_⟩, fun y => ?_⟩, fun z => ?_⟩)
  · rw [zi_le, hr] at z; rw [zi_lt, hr] at y; rw [zi_lt] at x
    rwa [zt_s, if_neg (Int.not_lt.mpr z), if_neg (Int.not_le.mpr y), if_neg (Int.not_le.mpr x)] at h
  · rw [zi_le, hr] at z; rw [zi_lt, hr] at y; rw [zi_lt] at x
    rwa [zt_s, if_neg (Int.not_lt.mpr z), if_neg (Int.not_le.mpr y), if_pos (Int.not_lt.mp x)] at h
  · rw [zi_le, hr] at z; rw [zi_lt, hr] at y
    rwa [zt_s, if_neg (Int.not_lt.mpr z), if_pos (Int.not_lt.mp y)] at h
  · rw [zi_le, hr] at z
    rwa [zt_s, if_pos (Int.not_le.mp z)] at h
/-! the two walks over all items -/
theorem zr_ready_loop {og io fi cf cv cg cc ui ud uk ut : Nat → Int32} {un t : Int32} {o n : Nat} {ST : Nat → Int32} (ho : o < 30) (hn : n ≤ 60) (hio : ∀ j, j < n → ∃ q, q < 30 ∧ io j = nI q)
    (hS : ∀ j, j < n → ∀ Q : Int32 → Prop, Q (ST j) → zp_Or_stateOn (nI j) t fi cf cv cg cc ui ud uk ut un Q)
    (h1 : (∀ j, j < n → og o = og (io j).toNatClampNeg → 2 ≤ (ST j).toInt) → P 1) (h0 : (∃ j, j < n ∧ og o = og (io j).toNatClampNeg ∧ (ST j).toInt < 2) → P 0) :
    ∃ k, zp_Or_ready_13 (nI o) og io fi (nI n) cf cv cg cc ui ud uk ut un t P k 0 := by
  have e2 : (2 : Int32).toInt = 2 := by decide
  have loop : ∀ k j : Nat, j + k = n → (∀ a, a < j → og o = og (io a).toNatClampNeg → 2 ≤ (ST a).toInt) → zp_Or_ready_13 (nI o) og io fi (nI n) cf cv cg cc ui ud uk ut un t P (k + 1) (nI j) := by
    intro k
    induction k with
    | zero =>
      intro j hj hv
      obtain rfl : j = n := by omega
      exact ⟨fun _ => ⟨rfl, h1 hv⟩, fun z => absurd (Int32.le_refl _) z⟩
    | succ k ih =>
      intro j hj hv
      have step : (og o = og (io j).toNatClampNeg → 2 ≤ (ST j).toInt) → zp_Or_ready_59 (zp_Or_ready_13 (nI o) og io fi (nI n) cf cv cg cc ui ud uk ut un t P (k + 1)) (nI j) := by
        intro hw
        show zp_Or_ready_13 (nI o) og io fi (nI n) cf cv cg cc ui ud uk ut un t P (k + 1) (nI j + 1)
        rw [zi_n1]
        refine ih (j + 1) (by omega) (fun a ha => ?_)
        by_cases haj : a = j
        · subst haj; exact hw
        · exact hv a (by omega)
      obtain ⟨q, hq, eq⟩ := hio j (by omega)
      have eqn : (io j).toNatClampNeg = q := by rw [eq]; exact zi_c (by omega)
      refine ⟨fun z => absurd z ?_, fun _ => ⟨zi_in (by omega) (by omega), ?_⟩⟩
      · rw [zi_le, zi_n (by omega), zi_n (by omega)]; omega
      rw [zi_c (by omega), eq]
      refine zr_areTogether ho hq (zb_br (fun z => step (fun y => absurd (eqn ▸ y) z)) (fun z => hS j (by omega) _ ⟨fun y => step (fun _ => ?_), fun y => ⟨rfl, h0 ⟨j, by omega, ?_, ?_⟩⟩⟩))
      · rw [zi_le, e2] at y; exact y
      · rw [eqn]; exact z
      · rw [zi_le, e2] at y; omega
  have z := loop n 0 (by omega) (fun a ha => absurd ha (Nat.not_lt_zero a))
  rw [zi_n0] at z
  exact ⟨_, z⟩
def yl_t (ST : Nat → Int32) (j : Nat) : Int := if ST j = 1 then 1 else 0
theorem zr_late_loop {fi cf cv cg cc ui ud uk ut : Nat → Int32} {un t p : Int32} {n : Nat} {ST : Nat → Int32} (hn : n ≤ 60) (hp : 0 ≤ p.toInt)
    (hS : ∀ j, j < n → ∀ Q : Int32 → Prop, Q (ST j) → zp_Or_stateOn (nI j) t fi cf cv cg cc ui ud uk ut un Q)
    (h1 : ∀ j, j < n → ST j = 1 → zs_m (yl_t ST) j = p.toInt → P (nI j)) (h0 : zs_m (yl_t ST) n ≤ p.toInt → P (-1)) :
    ∃ k, zp_Or_late_16 p fi (nI n) cf cv cg cc ui ud uk ut un t P k 0 0 := by
  have hz : ∀ j, 0 ≤ yl_t ST j ∧ yl_t ST j ≤ 1 := fun j => by unfold yl_t; split <;> omega
  have loop : ∀ k j : Nat, j + k = n → ∀ v : Int32, v.toInt = zs_m (yl_t ST) j → zs_m (yl_t ST) j ≤ p.toInt → zp_Or_late_16 p fi (nI n) cf cv cg cc ui ud uk ut un t P (k + 1) v (nI j) := by
    intro k
    induction k with
    | zero =>
      intro j hj v hv hle
      obtain rfl : j = n := by omega
      exact ⟨fun _ => h0 hle, fun z => absurd (Int32.le_refl _) z⟩
    | succ k ih =>
      intro j hj v hv hle
      have hs := zs_b j (fun i _ => hz i)
      have step : ∀ w : Int32, w.toInt = zs_m (yl_t ST) j + yl_t ST j → w.toInt ≤ p.toInt → zp_Or_late_50 (zp_Or_late_16 p fi (nI n) cf cv cg cc ui ud uk ut un t P (k + 1)) w (nI j) := by
        intro w hw hwp
        show zp_Or_late_16 p fi (nI n) cf cv cg cc ui ud uk ut un t P (k + 1) w (nI j + 1)
        rw [zi_n1]
        exact ih (j + 1) (by omega) w hw (by rw [hw] at hwp; exact hwp)
      refine ⟨fun z => absurd z ?_, fun _ => hS j (by omega) _ ⟨fun y => step v ?_ ?_, fun y => ⟨fun x => step _ ?_ ?_, fun x => h1 j (by omega) y ?_⟩⟩⟩
      · rw [zi_le, zi_n (by omega), zi_n (by omega)]; omega
      · rw [hv, yl_t, if_neg y, Int.add_zero]
      · rw [hv]; exact hle
      · rw [zi_add (by rw [hv, zi_1]; omega) (by rw [hv, zi_1]; omega), hv, yl_t, if_pos y, zi_1]
      · rw [zi_eq] at x
        rw [zi_add (by rw [hv, zi_1]; omega) (by rw [hv, zi_1]; omega), zi_1]; omega
      · rw [zi_eq] at x
        rw [← hv]; exact x
  have z := loop n 0 (by omega) 0 zi_0 (by show (0 : Int) ≤ _; exact hp)
  rw [zi_n0] at z
  exact ⟨_, z⟩
/-! a new item as an old one is today -/
theorem zf_on_fi {fi gi cf cv cg cc : Nat → Int32} {i f : Nat} {d : Int32} (h : fi (6 * i + f) = gi (6 * i + f)) : zf_on fi cf cv cg cc i f d = zf_on gi cf cv cg cc i f d := by
  unfold zf_on; rw [h]
def zf_cp (fi cf cv cg cc : Nat → Int32) (i n m : Nat) (t : Int32) : Nat → Int32 := fun k => if 6 * n ≤ k ∧ k < 6 * n + m then zf_on fi cf cv cg cc i (k - 6 * n) t else fi k
theorem zr_itmAdd {Q : Int32 → (Nat → Int32) → Int32 → Prop} {io : Nat → Int32} {p : Int32} {n : Nat} (hn : n < 60) (h : Q (nI n) (upd io n p) (nI (n + 1))) : zp_Itm_add p io (nI n) Q := by
  unfold zp_Itm_add
  rw [zi_c (by omega), zi_n1]
  exact ⟨zi_in hn (by omega), h⟩
theorem zr_copyOfToday {Q : Int32 → (Nat → Int32) → (Nat → Int32) → Int32 → Prop} {io fi cf cv cg cc : Nat → Int32} {i n c : Nat} {t : Int32} (hi : i < n) (hn : n < 60) (hc : cc i = nI c) (hc20 : c ≤ 20)
    (h : Q (nI n) (upd io n (io i)) (zf_cp fi cf cv cg cc i n 6 t) (nI (n + 1))) : zp_Or_copyOfToday (nI i) io fi (nI n) cf cv cg cc t Q := by
  unfold zp_Or_copyOfToday
  rw [zi_c (by omega)]
  refine ⟨zi_in (by omega) (by omega), zr_itmAdd hn ?_⟩
  have loop : ∀ k j : Nat, j + k = 6 → zp_Or_copyOfToday_19 (nI i) cf cv cg cc t Q (nI n) (upd io n (io i)) (nI (n + 1)) (k + 1) (nI j) (zf_cp fi cf cv cg cc i n j t) := by
    intro k
    induction k with
    | zero =>
      intro j hj
      obtain rfl : j = 6 := by omega
      exact ⟨fun _ => h, fun z => absurd (Int32.le_refl _) z⟩
    | succ k ih =>
      intro j hj
      have e6 : (6 : Int32).toInt = 6 := by decide
      refine ⟨fun z => absurd z ?_, fun _ => zr_valueOn (f := j) (by omega) (by omega) hc hc20 (zr_begin (by omega) (by omega) ?_)⟩
      · rw [zi_le, zi_n (by omega), e6]; omega
      rw [zi_n1]
      have e1 : zf_on (zf_cp fi cf cv cg cc i n j t) cf cv cg cc i j t = zf_on fi cf cv cg cc i j t := zf_on_fi (if_neg (by omega))
      have e2 : upd (zf_cp fi cf cv cg cc i n j t) (6 * n + j) (zf_on fi cf cv cg cc i j t) = zf_cp fi cf cv cg cc i n (j + 1) t := by
        funext k
        by_cases hk : k = 6 * n + j
        · subst hk
          rw [up_s, zf_cp, if_pos (by omega), Nat.add_sub_cancel_left]
        · rw [up_n _ _ hk, zf_cp, zf_cp]
          by_cases h2 : 6 * n ≤ k ∧ k < 6 * n + j
          · rw [if_pos h2, if_pos (by omega)]
          · rw [if_neg h2, if_neg (by omega)]
      rw [e1, e2]
      exact ih (j + 1) (by omega)
  have z := loop 6 0 (by omega)
  have e0 : zf_cp fi cf cv cg cc i n 0 t = fi := by
    funext k; exact if_neg (by omega)
  rw [zi_n0, e0] at z
  exact ⟨_, z⟩
end ZM
