/-! the second voice: its small methods -/
theorem zb_0 {c : Prop} [Decidable c] (h : zb_ c = 0) : ¬ c := fun hc => by rw [zb_t hc] at h; exact absurd h (by decide)
theorem zb_1 {c : Prop} [Decidable c] (h : ¬ zb_ c = 0) : c := Decidable.byContradiction (fun hc => h (zb_f hc))
theorem zg0 {A B : Prop} (b : B) : (¬ (0 : Int32) = 0 → A) ∧ ((0 : Int32) = 0 → B) := ⟨fun z => absurd rfl z, fun _ => b⟩
theorem zg1 {A B : Prop} (a : A) : (¬ (1 : Int32) = 0 → A) ∧ ((1 : Int32) = 0 → B) := ⟨fun _ => a, fun z => absurd z (by decide)⟩
theorem zh0 {A B : Prop} (b : B) : ((0 : Int32) = 0 → B) ∧ (¬ (0 : Int32) = 0 → A) := ⟨fun _ => b, fun z => absurd rfl z⟩
theorem zh1 {A B : Prop} (a : A) : ((1 : Int32) = 0 → B) ∧ (¬ (1 : Int32) = 0 → A) := ⟨fun z => absurd z (by decide), fun _ => a⟩
theorem z10 {A : Prop} (h : (1 : Int32) = 0) : A := absurd h (by decide)
theorem z_n10 : ¬ (1 : Int32) = 0 := by decide
theorem zo3_T {c2 c3 c4 T R M K : Prop} (n : ¬ c2) (h : T) : zo3 c2 c3 c4 T R M K := ⟨fun _ => h, fun a => absurd a n, fun a => absurd a n, fun a => absurd a n⟩
theorem zo3_R {c2 c3 c4 T R M K : Prop} (a : c2) (n : ¬ c3) (h : R) : zo3 c2 c3 c4 T R M K := ⟨fun z => absurd a z, fun _ _ => h, fun _ z => absurd z n, fun _ z => absurd z n⟩
theorem zo3_M {c2 c3 c4 T R M K : Prop} (a : c2) (b : c3) (n : ¬ c4) (h : M) : zo3 c2 c3 c4 T R M K := ⟨fun z => absurd a z, fun _ z => absurd b z, fun _ _ _ => h, fun _ _ z => absurd z n⟩
theorem zo3_K {c2 c3 c4 T R M K : Prop} (a : c2) (b : c3) (c : c4) (h : K) : zo3 c2 c3 c4 T R M K := ⟨fun z => absurd a z, fun _ z => absurd b z, fun _ _ z => absurd c z, fun _ _ _ => h⟩
section ZQ
variable {P : Int32 → Prop}
theorem zm_in {a lo hi : Int32} (h : P (zb_ (lo.toInt ≤ a.toInt ∧ a.toInt ≤ hi.toInt))) : zp_Mo_in a lo hi P := zr_isWithin h
theorem zm_isOrder {a : Int32} {n : Nat} (hn : n < 2147483648) (h : P (zb_ (0 ≤ a.toInt ∧ a.toInt < n))) : zp_Mo_isOrder a (nI n) P := zr_has hn h
theorem zm_isItem {a : Int32} {n : Nat} (hn : n < 2147483648) (h : P (zb_ (0 ≤ a.toInt ∧ a.toInt < n))) : zp_Mo_isItem a (nI n) P := zr_has hn h
theorem zm_isQuote {a : Int32} {n : Nat} (hn : n < 2147483648) (h : P (zb_ (0 ≤ a.toInt ∧ a.toInt < n))) : zp_Mo_isQuote a (nI n) P := zr_has hn h
theorem zm_isDay {a : Int32} (h : P (zb_ (0 ≤ a.toInt ∧ a.toInt ≤ 9999))) : zp_Mo_isDay a P := zm_in ⟨zb_nar _, h⟩
theorem zm_isSize {a : Int32} (h : P (zb_ (1 ≤ a.toInt ∧ a.toInt ≤ 100000))) : zp_Mo_isSize a P := zm_in ⟨zb_nar _, h⟩
theorem zm_isWeight {a : Int32} (h : P (zb_ (0 ≤ a.toInt ∧ a.toInt ≤ 1000000))) : zp_Mo_isWeight a P := zm_in ⟨zb_nar _, h⟩
theorem zm_isCost {a : Int32} (h : P (zb_ (0 ≤ a.toInt ∧ a.toInt ≤ 100000))) : zp_Mo_isCost a P := zm_in ⟨zb_nar _, h⟩
theorem zm_goes {R : Int32 → Int32 → Prop} {s1 s2 s3 s4 th : Int32} (x1 : s1 = 0 → R 0 1) (x2 : ¬ s1 = 0 → s2 = 0 → R 0 2) (x3 : ¬ s1 = 0 → ¬ s2 = 0 → s3 = 0 → R 0 3) (x4 : ¬ s1 = 0 → ¬ s2 = 0 → ¬ s3 = 0 → s4 = 0 → R 0 4)
    (k : ¬ s1 = 0 → ¬ s2 = 0 → ¬ s3 = 0 → ¬ s4 = 0 → R 1 0) : zp_Mo_goes s1 s2 s3 s4 th R :=
  ⟨fun a => ⟨fun b => ⟨fun c => ⟨fun d => ⟨fun z => absurd rfl z, fun _ => ⟨rfl, k a b c d⟩⟩, fun d => ⟨fun _ => ⟨rfl, x4 a b c d⟩, fun z => absurd z (by decide)⟩⟩, fun c => ⟨fun _ => ⟨rfl, x3 a b c⟩, fun z => absurd z (by decide)⟩⟩, fun b => ⟨fun _ => ⟨rfl, x2 a b⟩, fun z => absurd z (by decide)⟩⟩, fun a => ⟨fun _ => ⟨rfl, x1 a⟩, fun z => absurd z (by decide)⟩⟩
/-- it goes by two tests -/
theorem zm_goes2 {R : Int32 → Int32 → Prop} {s1 s2 th : Int32} (x1 : s1 = 0 → R 0 1) (x2 : ¬ s1 = 0 → s2 = 0 → R 0 2) (k : ¬ s1 = 0 → ¬ s2 = 0 → R 1 0) : zp_Mo_goes s1 s2 1 1 th R :=
  zm_goes x1 x2 (fun _ _ z => z10 z) (fun _ _ _ z => z10 z) (fun a b _ _ => k a b)
theorem zm_goes1 {R : Int32 → Int32 → Prop} {s1 th : Int32} (x1 : s1 = 0 → R 0 1) (k : ¬ s1 = 0 → R 1 0) : zp_Mo_goes s1 1 1 1 th R :=
  zm_goes2 x1 (fun _ z => z10 z) (fun a _ => k a)
theorem zm_goes3 {R : Int32 → Int32 → Prop} {s1 s2 s3 th : Int32} (x1 : s1 = 0 → R 0 1) (x2 : ¬ s1 = 0 → s2 = 0 → R 0 2) (x3 : ¬ s1 = 0 → ¬ s2 = 0 → s3 = 0 → R 0 3) (k : ¬ s1 = 0 → ¬ s2 = 0 → ¬ s3 = 0 → R 1 0) : zp_Mo_goes s1 s2 s3 1 th R :=
  zm_goes x1 x2 x3 (fun _ _ _ z => z10 z) (fun a b c _ => k a b c)
theorem zm_tells {Q : (Nat → Int32) → (Nat → Int32) → (Nat → Int32) → (Nat → Int32) → (Nat → Int32) → Prop} {i c : Nat} {f v g t : Int32} {cf cv cg ct cc : Nat → Int32} (hi : i < 60) (hc : cc i = nI c) (hc20 : c < 20)
    (h : Q (upd cc i (nI (c + 1))) (upd cf (20 * i + c) f) (upd cv (20 * i + c) v) (upd cg (20 * i + c) g) (upd ct (20 * i + c) t)) : zp_Mo_tells (nI i) f v g t cc cf cv cg ct Q := by
  have e : (20 * nI i + nI c : Int32) = nI (20 * i + c) := by
    rw [show (20 : Int32) = nI 20 from by decide, zi_nm, zi_na]
  unfold zp_Mo_tells
  rw [zi_c (by omega), hc, e, zi_n1]
  refine ⟨zi_in hi (by omega), fun y hy => ?_⟩
  subst hy
  rw [zi_c (by omega)]
  have z := zi_in (n := 20 * i + c) (N := 1200) (by omega) (by omega)
  exact ⟨z, z, z, z, zi_in hi (by omega), zi_in hi (by omega), h⟩
theorem zm_on_loop {fi cf cv cg cc : Nat → Int32} {i f c : Nat} {d : Int32} (hi : i < 60) (hf : f < 6) (hc : cc i = nI c) (hc20 : c ≤ 20) (hg : ∀ j, j < c → 0 ≤ (cg (20 * i + j)).toInt)
    (h : P (zf_v (zf_l cf cv cg (nI f) (20 * i) c) d (fi (6 * i + f)))) :
    ∀ k j : Nat, j + k = c → ∀ v4 : Int32, ((v4 = -1 ∧ (zf_l cf cv cg (nI f) (20 * i) j).foldl (zf_s d) (fi (6 * i + f), 0) = (fi (6 * i + f), 0)) ∨ ∃ b, b < 20 * i + c ∧ v4 = nI b ∧ (zf_l cf cv cg (nI f) (20 * i) j).foldl (zf_s d) (fi (6 * i + f), 0) = (cv b, cg b)) →
      zp_Mo_on_9 (nI i) (nI f) d fi cc cf cv cg P (k + 1) v4 (nI (20 * i + j)) := by
  have e : (20 * nI i + nI c : Int32) = nI (20 * i + c) := by
    rw [show (20 : Int32) = nI 20 from by decide, zi_nm, zi_na]
  have e6 : (6 * nI i + nI f : Int32) = nI (6 * i + f) := by
    rw [show (6 : Int32) = nI 6 from by decide, zi_nm, zi_na]
  have ei : (nI i).toNatClampNeg = i := zi_c (by omega)
  have nn : ¬ (0 : Int32) ≤ -1 := by decide
  have nl : (-1 : Int32) < 0 := by decide
  have nb : ∀ b : Nat, b < 20 * i + c → (0 : Int32) ≤ nI b := fun b hb => by rw [zi_le, zi_0, zi_n (by omega)]; omega
  have nb2 : ∀ b : Nat, b < 20 * i + c → ¬ nI b < (0 : Int32) := fun b hb => by rw [zi_lt, zi_0, zi_n (by omega)]; omega
  intro k
  induction k with
  | zero =>
    intro j hj v4 hv
    obtain rfl : j = c := by omega
    unfold zp_Mo_on_9
    rw [ei, hc, e, e6]
    refine ⟨zi_in hi (by omega), fun _ => ?_, fun z => absurd (Int32.le_refl _) z⟩
    rcases hv with ⟨rfl, hv⟩ | ⟨b, hb, rfl, hv⟩
    · refine ⟨fun z => absurd z nn, fun _ => ⟨zi_in (by omega) (by omega), ?_⟩⟩
      rw [zi_c (by omega)]
      unfold zf_v at h; rw [hv] at h; exact h
    · refine ⟨fun _ => ⟨zi_in (by omega) (by omega), ?_⟩, fun z => absurd (nb b hb) z⟩
      rw [zi_c (by omega)]
      unfold zf_v at h; rw [hv] at h; exact h
  | succ k ih =>
    intro j hj v4 hv
    have hin : vp_in (nI (20 * i + j)) 1200 := zi_in (by omega) (by omega)
    have e1 : (zf_l cf cv cg (nI f) (20 * i) (j + 1)).foldl (zf_s d) (fi (6 * i + f), 0) = (if cf (20 * i + j) = nI f then [(cv (20 * i + j), cg (20 * i + j))] else []).foldl (zf_s d) ((zf_l cf cv cg (nI f) (20 * i) j).foldl (zf_s d) (fi (6 * i + f), 0)) := by
      show (zf_l cf cv cg (nI f) (20 * i) j ++ _).foldl (zf_s d) _ = _
      rw [List.foldl_append]
    have stay : (zf_l cf cv cg (nI f) (20 * i) (j + 1)).foldl (zf_s d) (fi (6 * i + f), 0) = (zf_l cf cv cg (nI f) (20 * i) j).foldl (zf_s d) (fi (6 * i + f), 0) → zp_Mo_on_76 (zp_Mo_on_9 (nI i) (nI f) d fi cc cf cv cg P (k + 1)) v4 (nI (20 * i + j)) := by
      intro hs
      show zp_Mo_on_9 (nI i) (nI f) d fi cc cf cv cg P (k + 1) v4 (nI (20 * i + j) + 1)
      rw [zi_n1]
      refine ih (j + 1) (by omega) v4 ?_
      rw [hs]; exact hv
    have take : (zf_l cf cv cg (nI f) (20 * i) (j + 1)).foldl (zf_s d) (fi (6 * i + f), 0) = (cv (20 * i + j), cg (20 * i + j)) → zp_Mo_on_72 (zp_Mo_on_9 (nI i) (nI f) d fi cc cf cv cg P (k + 1)) (nI (20 * i + j)) := by
      intro hs
      show zp_Mo_on_9 (nI i) (nI f) d fi cc cf cv cg P (k + 1) (nI (20 * i + j)) (nI (20 * i + j) + 1)
      rw [zi_n1]
      exact ih (j + 1) (by omega) _ (Or.inr ⟨20 * i + j, by omega, rfl, hs⟩)
    have hgj := hg j (by omega)
    unfold zp_Mo_on_9
    rw [ei, hc, e]
    refine ⟨zi_in hi (by omega), fun z => absurd z ?_, fun _ => ⟨hin, ?_⟩⟩
    · rw [zi_le, zi_n (by omega), zi_n (by omega)]; omega
    rw [zi_c (n := 20 * i + j) (by omega)]
    refine ⟨fun z => stay ?_, fun z => ⟨hin, fun y => ?_, fun y => stay ?_⟩⟩
    · rw [e1, if_neg z]; rfl
    · rw [if_pos z] at e1
      rcases hv with ⟨rfl, hv⟩ | ⟨b, hb, rfl, hv⟩
      · refine ⟨fun _ => take ?_, fun w => absurd nl w⟩
        rw [e1, hv]
        refine if_pos ⟨?_, ?_⟩
        · rw [zi_0]; exact hgj
        · rw [zi_le] at y; exact y
      · refine ⟨fun w => absurd w (nb2 b hb), fun _ => ⟨hin, zi_in (by omega) (by omega), ?_⟩⟩
        rw [zi_c (n := b) (by omega)]
        refine ⟨fun w => stay ?_, fun w => take ?_⟩
        · rw [e1, hv]
          refine if_neg (fun q => ?_)
          rw [zi_lt] at w
          exact absurd q.1 (Int.not_le.mpr w)
        · rw [e1, hv]
          refine if_pos ⟨?_, ?_⟩
          · rw [zi_lt] at w; exact Int.not_lt.mp w
          · rw [zi_le] at y; exact y
    · rw [e1, if_pos z]
      refine if_neg (fun q => ?_)
      rw [zi_le] at y
      exact absurd q.2 y
theorem zm_on {fi cf cv cg cc : Nat → Int32} {i f ni : Nat} {d : Int32} (hC : zj_c cf cv cg cc ni) (hi : i < 60) (hf : f < 6) (h : P (zf_on fi cf cv cg cc i f d)) : zp_Mo_on (nI i) (nI f) d fi cc cf cv cg P := by
  obtain ⟨c, hc20, hc, hcn⟩ := zj_cnt (i := i) hC
  have e : (20 * nI i : Int32) = nI (20 * i) := by
    rw [show (20 : Int32) = nI 20 from by decide, zi_nm]
  unfold zp_Mo_on
  intro y7 h7
  rw [e] at h7
  subst h7
  unfold zf_on at h
  rw [hcn] at h
  exact ⟨c + 1, zm_on_loop hi hf hc hc20 (fun j hj => by obtain ⟨-, -, -, -, h5, -⟩ := hC.2.2 i j (by omega); exact h5) h c 0 (by omega) _ (Or.inl ⟨rfl, rfl⟩)⟩
theorem zm_sum {ui ud uk : Nat → Int32} {i n : Nat} {d : Int32} (hn : n ≤ 200) (hk : ∀ j, j < n → 0 ≤ (uk j).toInt ∧ (uk j).toInt ≤ 1000000) (h : ∀ r : Int32, r.toInt = zs_m (zu_d ui ud uk (nI i) d) n → P r) : zp_Mo_sum (nI i) d (nI n) ui ud uk P := by
  have hz : ∀ j, j < n → 0 ≤ zu_d ui ud uk (nI i) d j ∧ zu_d ui ud uk (nI i) d j ≤ 1000000 := fun j hj => by
    unfold zu_d; split
    · exact hk j hj
    · omega
  have loop : ∀ k j : Nat, j + k = n → ∀ v : Int32, v.toInt = zs_m (zu_d ui ud uk (nI i) d) j → zp_Mo_sum_5 (nI i) d (nI n) ui ud uk P (k + 1) v (nI j) := by
    intro k
    induction k with
    | zero =>
      intro j hj v hv
      obtain rfl : j = n := by omega
      exact ⟨fun _ => h v hv, fun z => absurd (Int32.le_refl _) z⟩
    | succ k ih =>
      intro j hj v hv
      have hin : vp_in (nI j) 200 := zi_in (by omega) (by omega)
      have hs := zs_b j (fun i hi => hz i (by omega))
      have ht := hz j (by omega)
      have step : ∀ w : Int32, w.toInt = zs_m (zu_d ui ud uk (nI i) d) j + zu_d ui ud uk (nI i) d j → zp_Mo_sum_46 (zp_Mo_sum_5 (nI i) d (nI n) ui ud uk P (k + 1)) w (nI j) := by
        intro w hw
        show zp_Mo_sum_5 (nI i) d (nI n) ui ud uk P (k + 1) w (nI j + 1)
        rw [zi_n1]
        exact ih (j + 1) (by omega) w hw
      refine ⟨fun z => absurd z ?_, fun _ => ⟨hin, ?_⟩⟩
      · rw [zi_le, zi_n (by omega), zi_n (by omega)]; omega
      rw [zi_c (by omega)]
      refine ⟨fun z => step v ?_, fun z => ⟨hin, fun y => step v ?_, fun y => ⟨hin, fun w hw => step w ?_⟩⟩⟩
      · rw [hv, zu_d, if_neg (fun q => z q.1)]; omega
      · rw [zi_lt] at y
        rw [hv, zu_d, if_neg (fun q => absurd q.2 (Int.not_le.mpr y))]; omega
      · rw [zi_lt] at y
        have et : zu_d ui ud uk (nI i) d j = (uk j).toInt := if_pos ⟨z, Int.not_lt.mp y⟩
        rw [et] at ht ⊢
        rw [hw, zi_add (by omega) (by omega), hv]
  have z := loop n 0 (by omega) 0 zi_0
  rw [zi_n0] at z
  exact ⟨_, z⟩
theorem zm_isMade {ui : Nat → Int32} {i n : Nat} (hn : n ≤ 200) (h1 : ¬ (∀ j, j < n → ui j ≠ nI i) → P 1) (h0 : (∀ j, j < n → ui j ≠ nI i) → P 0) : zp_Mo_isMade (nI i) (nI n) ui P := by
  have loop : ∀ k j : Nat, j + k = n → (∀ a, a < j → ui a ≠ nI i) → zp_Mo_isMade_2 (nI i) (nI n) ui P (k + 1) (nI j) := by
    intro k
    induction k with
    | zero =>
      intro j hj hv
      obtain rfl : j = n := by omega
      exact ⟨fun _ => ⟨rfl, h0 hv⟩, fun z => absurd (Int32.le_refl _) z⟩
    | succ k ih =>
      intro j hj hv
      have hin : vp_in (nI j) 200 := zi_in (by omega) (by omega)
      refine ⟨fun z => absurd z ?_, fun _ => ⟨hin, ?_⟩⟩
      · rw [zi_le, zi_n (by omega), zi_n (by omega)]; omega
      rw [zi_c (by omega)]
      refine ⟨fun z => ?_, fun z => ⟨rfl, h1 (fun q => q j (by omega) z)⟩⟩
      rw [zi_n1]
      refine ih (j + 1) (by omega) (fun a ha => ?_)
      by_cases haj : a = j
      · subst haj; exact z
      · exact hv a (by omega)
  have z := loop n 0 (by omega) (fun a ha => absurd ha (Nat.not_lt_zero a))
  rw [zi_n0] at z
  exact ⟨_, z⟩
theorem zm_isValue {f : Nat} {v t : Int32} (hf : f < 6) (h1 : zv_ok f v.toInt t.toInt → P 1) (h0 : ¬ zv_ok f v.toInt t.toInt → P 0) : zp_Mo_isValue (nI f) v t P := by
  have e3 : (3 : Int32).toInt = 3 := by decide
  have e5 : (5 : Int32).toInt = 5 := by decide
  have go : ∀ (c : Prop) [Decidable c], (zv_ok f v.toInt t.toInt ↔ c) → narrow .boolean (.int (zb_ c)) = .int (zb_ c) ∧ P (zb_ c) := by
    intro c hd hcc
    refine ⟨zb_nar c, ?_⟩
    by_cases hx : c
    · rw [zb_t hx]; exact h1 (hcc.mpr hx)
    · rw [zb_f hx]; exact h0 (fun q => hx (hcc.mp q))
  refine ⟨fun z => ⟨fun y => zm_in (go _ ?_), fun y => zm_isWeight (go _ ?_)⟩, fun z => zm_isSize (go _ ?_)⟩
  · rw [zi_le, e5, zi_n (by omega)] at y
    have e9 : (9999 : Int32).toInt = 9999 := by decide
    rw [e9]
    unfold zv_ok; omega
  · rw [zi_le, e3, zi_n (by omega)] at z
    rw [zi_le, e5, zi_n (by omega)] at y
    unfold zv_ok; omega
  · rw [zi_le, e3, zi_n (by omega)] at z
    unfold zv_ok; omega
theorem zm_stateOn {fi cf cv cg cc ui ud uk : Nat → Int32} {d : Int32} {i ni nu : Nat} (hC : zj_c cf cv cg cc ni) (hi : i < 60) (hn : nu ≤ 200) (hk : ∀ j, j < nu → 0 ≤ (uk j).toInt ∧ (uk j).toInt ≤ 1000000)
    (h : P (zS fi cf cv cg cc ui ud uk nu i d)) : zp_Mo_stateOn (nI i) d fi cc cf cv cg (nI nu) ui ud uk P := by
  unfold zS at h
  refine zm_sum hn hk (fun r hr => zm_on (f := 4) hC hi (by omega) ⟨fun z => zm_on (f := 3) hC hi (by omega) ⟨fun y => zm_on (f := 5) hC hi (by omega) ⟨fun x => ?_, fun x => ?_⟩, fun y => ?_⟩, fun z => ?_⟩)
  · rw [zi_le, hr] at z; rw [zi_lt, hr] at y; rw [zi_lt] at x
    rwa [zt_s, if_neg (Int.not_lt.mpr z), if_neg (Int.not_le.mpr y), if_neg (Int.not_le.mpr x)] at h
  · rw [zi_le, hr] at z; rw [zi_lt, hr] at y; rw [zi_lt] at x
    rwa [zt_s, if_neg (Int.not_lt.mpr z), if_neg (Int.not_le.mpr y), if_pos (Int.not_lt.mp x)] at h
  · rw [zi_le, hr] at z; rw [zi_lt, hr] at y
    rwa [zt_s, if_neg (Int.not_lt.mpr z), if_pos (Int.not_lt.mp y)] at h
  · rw [zi_le, hr] at z
    rwa [zt_s, if_pos (Int.not_le.mp z)] at h
theorem zm_customerOf {oc io qi : Nat → Int32} {j i o : Nat} (hj : j < 60) (hi : i < 60) (ei : qi j = nI i) (ho : o < 30) (eo : io i = nI o) (h : P (oc o)) : zp_Mo_customerOf (nI j) oc io qi P := by
  unfold zp_Mo_customerOf
  rw [zi_c (by omega), ei, zi_c (n := i) (by omega), eo, zi_c (n := o) (by omega)]
  exact ⟨zi_in hj (by omega), zi_in hi (by omega), zi_in ho (by omega), h⟩
def zm_six (fi : Nat → Int32) (n : Nat) (a b c l m d : Int32) : Nat → Int32 := upd (upd (upd (upd (upd (upd fi (6 * n) a) (6 * n + 1) b) (6 * n + 2) c) (6 * n + 3) l) (6 * n + 4) m) (6 * n + 5) d
theorem zm_makes {Q : Int32 → Int32 → (Nat → Int32) → (Nat → Int32) → Prop} {io fi : Nat → Int32} {n : Nat} {o a b c l m d : Int32} (hn : n < 60) (h : Q (nI n) (nI (n + 1)) (upd io n o) (zm_six fi n a b c l m d)) : zp_Mo_makes o a b c l m d (nI n) io fi Q := by
  have e0 : (6 * nI n : Int32) = nI (6 * n) := by
    rw [show (6 : Int32) = nI 6 from by decide, zi_nm]
  have e1 : (nI (6 * n) + 1 : Int32) = nI (6 * n + 1) := zi_na
  have e2 : (nI (6 * n) + 2 : Int32) = nI (6 * n + 2) := zi_na
  have e3 : (nI (6 * n) + 3 : Int32) = nI (6 * n + 3) := zi_na
  have e4 : (nI (6 * n) + 4 : Int32) = nI (6 * n + 4) := zi_na
  have e5 : (nI (6 * n) + 5 : Int32) = nI (6 * n + 5) := zi_na
  unfold zp_Mo_makes
  rw [e0, e1, e2, e3, e4, e5, zi_n1, zi_n1s, zi_c (n := n) (by omega), zi_c (n := 6 * n) (by omega), zi_c (n := 6 * n + 1) (by omega), zi_c (n := 6 * n + 2) (by omega), zi_c (n := 6 * n + 3) (by omega), zi_c (n := 6 * n + 4) (by omega), zi_c (n := 6 * n + 5) (by omega)]
  exact ⟨zi_in hn (by omega), zi_in (by omega) (by omega), zi_in (by omega) (by omega), zi_in (by omega) (by omega), zi_in (by omega) (by omega), zi_in (by omega) (by omega), zi_in (by omega) (by omega), h⟩
end ZQ
