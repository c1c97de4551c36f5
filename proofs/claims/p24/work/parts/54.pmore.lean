/-! what holds between the two -/
def zG (ia cf cv cg cc mcf mcv mcg ka kd kk mtk : Nat → Int32) (ni : Nat) : Prop := (∀ i, 0 ≤ (ia i).toInt) ∧ zj_c mcf mcv mcg cc ni ∧
  (∀ (i : Nat) (f : Int32), zf_l cf cv cg f (20 * i) (cc i).toNatClampNeg = zf_l mcf mcv mcg f (20 * i) (cc i).toNatClampNeg) ∧ ∀ d, d < 10000 → (mtk d).toInt = zk_s ka kd kk (nI d)
theorem zv_w {f : Nat} {v t : Int} (h : zv_ok f v t) (ht : 0 ≤ t) : zv_ok f v 0 := by
  unfold zv_ok at h ⊢; omega
section ZGS
variable {ia fi cf cv cg cc mcf mcv mcg ka kd kk mtk ui ud uk ut : Nat → Int32} {ni nu : Nat}
theorem zG_on {i f : Nat} {d : Int32} (g : zG ia cf cv cg cc mcf mcv mcg ka kd kk mtk ni) : zf_on fi cf cv cg cc i f d = zf_on fi mcf mcv mcg cc i f d := by
  unfold zf_on; rw [g.2.2.1 i (nI f)]
theorem zG_S {i : Nat} {d : Int32} (g : zG ia cf cv cg cc mcf mcv mcg ka kd kk mtk ni) : zS fi cf cv cg cc ui ud uk nu i d = zS fi mcf mcv mcg cc ui ud uk nu i d := by
  unfold zS; rw [zG_on (f := 4) g, zG_on (f := 3) g, zG_on (f := 5) g]
theorem zG_item (g : zG ia cf cv cg cc mcf mcv mcg ka kd kk mtk ni) : zG ia cf cv cg cc mcf mcv mcg ka kd kk mtk (ni + 1) := ⟨g.1, zj_c_item g.2.1, g.2.2⟩
theorem zG_agree {i : Nat} {r : Int32} (g : zG ia cf cv cg cc mcf mcv mcg ka kd kk mtk ni) (hr : 1 ≤ r.toInt ∧ r.toInt ≤ 99) : zG (upd ia i r) cf cv cg cc mcf mcv mcg ka kd kk mtk ni :=
  ⟨fun j => by
    by_cases e : j = i
    · subst e; rw [up_s]; omega
    · rw [up_n _ _ e]; exact g.1 j, g.2⟩
theorem zG_add {i c f : Nat} {v w : Int32} (g : zG ia cf cv cg cc mcf mcv mcg ka kd kk mtk ni) (hi : i < ni) (hc : cc i = nI c) (hc20 : c < 20) (hf : f < 6) (hv : zv_ok f v.toInt 0) (hw : 0 ≤ w.toInt ∧ w.toInt ≤ 9999) :
    zG ia (upd cf (20 * i + c) (nI f)) (upd cv (20 * i + c) v) (upd cg (20 * i + c) w) (upd cc i (nI (c + 1))) (upd mcf (20 * i + c) (nI f)) (upd mcv (20 * i + c) v) (upd mcg (20 * i + c) w) ka kd kk mtk ni := by
  refine ⟨g.1, zj_c_add g.2.1 hi hc hc20 hf hv hw, fun k x => ?_, g.2.2.2⟩
  by_cases e : k = i
  · subst e
    have hl := g.2.2.1 k x
    rw [hc, zi_c (by omega)] at hl
    rw [up_s, zi_c (by omega), zf_l_add, zf_l_add, hl]
  · rw [up_n _ _ e]
    obtain ⟨n, hn, -, en⟩ := zj_cnt (i := k) g.2.1
    have hl := g.2.2.1 k x
    rw [en] at hl ⊢
    rw [zf_l_other e hc20 hn, zf_l_other e hc20 hn, hl]
theorem zf_l_two {i c : Nat} {x f1 f2 v1 v2 w1 w2 : Int32} : zf_l (upd (upd cf (20 * i + c) f1) (20 * i + (c + 1)) f2) (upd (upd cv (20 * i + c) v1) (20 * i + (c + 1)) v2) (upd (upd cg (20 * i + c) w1) (20 * i + (c + 1)) w2) x (20 * i) (c + 2) =
    zf_l cf cv cg x (20 * i) c ++ (if f1 = x then [(v1, w1)] else []) ++ (if f2 = x then [(v2, w2)] else []) := by
  have := zf_l_add (cf := upd cf (20 * i + c) f1) (cv := upd cv (20 * i + c) v1) (cg := upd cg (20 * i + c) w1) (i := i) (c := c + 1) (f := x) (g := f2) (v := v2) (w := w2)
  refine this.trans ?_
  rw [zf_l_add]
theorem zG_split {i c : Nat} {a b w : Int32} (g : zG ia cf cv cg cc mcf mcv mcg ka kd kk mtk ni) (hi : i < ni) (hc : cc i = nI c) (hc20 : c + 2 ≤ 20) (ha : 0 ≤ a.toInt ∧ a.toInt ≤ 1000000) (hb : 0 ≤ b.toInt ∧ b.toInt ≤ 1000000) (hw : 0 ≤ w.toInt ∧ w.toInt ≤ 9999) :
    zG ia (upd (upd cf (20 * i + c) 4) (20 * i + (c + 1)) 3) (upd (upd cv (20 * i + c) a) (20 * i + (c + 1)) b) (upd (upd cg (20 * i + c) w) (20 * i + (c + 1)) w) (upd (upd cc i (nI (c + 1))) i (nI (c + 2)))
      (upd (upd mcf (20 * i + c) 3) (20 * i + (c + 1)) 4) (upd (upd mcv (20 * i + c) b) (20 * i + (c + 1)) a) (upd (upd mcg (20 * i + c) w) (20 * i + (c + 1)) w) ka kd kk mtk (ni + 1) := by
  have h1 := zj_c_add (f := 3) (v := b) (g := w) g.2.1 hi hc (by omega) (by omega) (by unfold zv_ok; omega) hw
  have h2 := zj_c_add (f := 4) (v := a) (g := w) h1 hi (up_s _ _ _) (by omega) (by omega) (by unfold zv_ok; omega) hw
  refine ⟨g.1, zj_c_item h2, fun k x => ?_, g.2.2.2⟩
  by_cases e : k = i
  · subst e
    have hl := g.2.2.1 k x
    rw [hc, zi_c (by omega)] at hl
    rw [up_s, zi_c (by omega), zf_l_two, zf_l_two, hl]
    by_cases x3 : (3 : Int32) = x
    · have x4 : ¬ (4 : Int32) = x := fun q => absurd (q.trans x3.symm) (by decide)
      rw [if_pos x3, if_neg x4, List.append_nil, List.append_nil]
    · rw [if_neg x3, List.append_nil, List.append_nil]
  · rw [up_n _ _ e, up_n _ _ e]
    obtain ⟨n, hn, -, en⟩ := zj_cnt (i := k) g.2.1
    have hl := g.2.2.1 k x
    rw [en] at hl ⊢
    rw [zf_l_other e (by omega) hn, zf_l_other e (by omega) hn, zf_l_other e (by omega) hn, zf_l_other e (by omega) hn, hl]
theorem zG_reserve {i d : Nat} {kl : Int32} (g : zG ia cf cv cg cc mcf mcv mcg ka kd kk mtk ni) (hb : zk_ok ka kk) (hi : i < 60) (h0 : ka i = 0) (hd : d < 10000) (hk : 0 ≤ kl.toInt ∧ kl.toInt ≤ 1000000) :
    zG ia cf cv cg cc mcf mcv mcg (upd ka i 1) (upd kd i (nI d)) (upd kk i kl) (upd mtk d (mtk d + kl)) ni := by
  refine ⟨g.1, g.2.1, g.2.2.1, fun e he => ?_⟩
  rw [zk_s_take hi h0]
  have hs := zk_sb (kd := kd) hb (nI d)
  have ge := g.2.2.2 e he
  by_cases h : e = d
  · subst h
    rw [up_s, if_pos rfl, zi_add (by omega) (by omega), ge]
  · rw [up_n _ _ h, if_neg (fun q => h (zi_nn (by omega) (by omega) q.symm)), ge, Int.add_zero]
theorem z_six_item {a b c d : Int32} (hz : ∀ k, 6 * ni ≤ k → fi k = 0) : zm_six fi ni a b c 0 0 d = upd (upd (upd (upd fi (6 * ni + 0) a) (6 * ni + 1) b) (6 * ni + 2) c) (6 * ni + 5) d := by
  funext k
  unfold zm_six
  by_cases h5 : k = 6 * ni + 5
  · subst h5; rw [up_s, up_s]
  rw [up_n _ _ h5, up_n _ _ h5]
  by_cases h4 : k = 6 * ni + 4
  · subst h4; rw [up_s, up_n _ _ (by omega), up_n _ _ (by omega), up_n _ _ (by omega), hz _ (by omega)]
  rw [up_n _ _ h4]
  by_cases h3 : k = 6 * ni + 3
  · subst h3; rw [up_s, up_n _ _ (by omega), up_n _ _ (by omega), up_n _ _ (by omega), hz _ (by omega)]
  rw [up_n _ _ h3]
  rfl
theorem z_six_split {i : Nat} {y q t : Int32} : zm_six fi ni (zf_on fi cf cv cg cc i 0 t) (zf_on fi cf cv cg cc i 1 t) (zf_on fi cf cv cg cc i 2 t) y q (zf_on fi cf cv cg cc i 5 t) = upd (upd (zf_cp fi cf cv cg cc i ni 6 t) (6 * ni + 3) y) (6 * ni + 4) q := by
  funext k
  unfold zm_six
  by_cases h4 : k = 6 * ni + 4
  · subst h4; rw [up_s, up_n _ _ (by omega), up_s]
  by_cases h3 : k = 6 * ni + 3
  · subst h3; rw [up_n _ _ (by omega), up_n _ _ (by omega), up_s, up_n _ _ (by omega), up_s]
  rw [up_n _ _ h4, up_n _ _ h3]
  unfold zf_cp
  by_cases h5 : k = 6 * ni + 5
  · subst h5; rw [up_s, if_pos (by omega), Nat.add_sub_cancel_left]
  rw [up_n _ _ h5, up_n _ _ h4, up_n _ _ h3]
  by_cases h2 : k = 6 * ni + 2
  · subst h2; rw [up_s, if_pos (by omega), Nat.add_sub_cancel_left]
  rw [up_n _ _ h2]
  by_cases h1 : k = 6 * ni + 1
  · subst h1; rw [up_s, if_pos (by omega), Nat.add_sub_cancel_left]
  rw [up_n _ _ h1]
  by_cases h0 : k = 6 * ni
  · subst h0; rw [up_s, if_pos (by omega), Nat.sub_self]
  rw [up_n _ _ h0, if_neg (by omega)]
theorem z_tot {i : Nat} {t : Int} {d : Int32} (hU : zj_u ui ud uk ut ni nu t) (hd : t ≤ d.toInt) (hi : i < 60) : zs_m (zu_d ui ud uk (nI i) d) nu = (ut i).toInt := by
  rw [hU.2.2.2.2.2 i hi]
  refine zs_e nu (fun j hj => ?_)
  have := hU.2.2.2.1 j hj
  unfold zu_d zu_a
  by_cases e : ui j = nI i
  · rw [if_pos e, if_pos ⟨e, by omega⟩]
  · rw [if_neg e, if_neg (fun q => e q.1)]
theorem z_uk {t : Int} (hU : zj_u ui ud uk ut ni nu t) : ∀ j, j < nu → 0 ≤ (uk j).toInt ∧ (uk j).toInt ≤ 1000000 := fun j hj => ⟨by have := (hU.2.2.1 j hj).1; omega, (hU.2.2.1 j hj).2⟩
theorem z_fit {p : Int32} {cap : Int} (hK : zj_k ka kd kk ni cap) (hni : ni ≤ 60) (ht : ∀ d, d < 10000 → (mtk d).toInt = zk_s ka kd kk (nI d)) (hp : 0 ≤ p.toInt) : (∀ j, j < 60 → ka j ≠ 0 → zk_s ka kd kk (kd j) ≤ p.toInt) ↔ ∀ d, d < 10000 → (mtk d).toInt ≤ p.toInt := by
  constructor
  · intro h d hd
    rw [ht d hd]
    by_cases hx : ∃ j, j < 60 ∧ ka j ≠ 0 ∧ kd j = nI d
    · obtain ⟨j, h1, h2, h3⟩ := hx
      rw [← h3]; exact h j h1 h2
    · have : zk_s ka kd kk (nI d) = 0 := by
        unfold zk_s
        rw [zs_z (f := zk_t ka kd kk (nI d)) 0 60 (by omega) (fun j _ hj => if_neg (fun q => hx ⟨j, hj, q.1, q.2⟩))]
        rfl
      omega
  · intro h j hj hk
    obtain ⟨-, h2, -⟩ := hK.1 j hk
    obtain ⟨d, hd, hd2, ed⟩ := zi_of h2.1
    rw [ed, ← ht d (by omega)]
    exact h d (by omega)
end ZGS
theorem zl_more {ST : Nat → Int32} {j n : Nat} {p : Int} (hj : j < n) (a : ST j = 1) (b : zs_m (yl_t ST) j = p) : p < zs_m (yl_t ST) n := by
  have hz : ∀ j, 0 ≤ yl_t ST j := fun j => by unfold yl_t; split <;> omega
  have h1 := zs_mono (f := yl_t ST) (j + 1) n (by omega) (fun k _ _ => hz k)
  have h2 : zs_m (yl_t ST) (j + 1) = zs_m (yl_t ST) j + yl_t ST j := rfl
  have h3 : yl_t ST j = 1 := if_pos a
  rw [h2, h3, b] at h1
  omega
theorem zl_uniq {ST : Nat → Int32} {j j2 : Nat} {p : Int} (a : ST j = 1) (b : zs_m (yl_t ST) j = p) (a2 : ST j2 = 1) (b2 : zs_m (yl_t ST) j2 = p) : j = j2 := by
  rcases Nat.lt_trichotomy j j2 with q | q | q
  · have := zl_more q a b; omega
  · exact q
  · have := zl_more q a2 b2; omega
theorem zG_0 : zG (fun _ => 0) (fun _ => 0) (fun _ => 0) (fun _ => 0) (fun _ => 0) (fun _ => 0) (fun _ => 0) (fun _ => 0) (fun _ => 0) (fun _ => 0) (fun _ => 0) (fun _ => 0) 0 :=
  ⟨fun _ => by rw [zi_0]; omega, zj_0.2.2.2.2.1, fun _ _ => rfl, fun d _ => by
    show (0 : Int32).toInt = zs_m (zk_t (fun _ => 0) (fun _ => 0) (fun _ => 0) (nI d)) 60
    rw [zs_z (f := zk_t (fun _ => 0) (fun _ => 0) (fun _ => 0) (nI d)) 0 60 (by omega) (fun j _ _ => if_neg (fun q => q.1 rfl)), zi_0]
    rfl⟩
/-! the law's comparison -/
theorem zcmp_v {th code : Int32} {V : Prop} (e : th = code) (I : V) : zp_Mo_thrown th (fun r => (r = code → V) ∧ (¬ r = code → False)) := ⟨fun _ => I, fun z => z e⟩
theorem zcmp_i {th code r : Int32} {out : Nat → Int64} {V : Prop} (e : th = code) (v : code = 0 → out (0 : Int32).toNatClampNeg = r.toInt64) (I : V) : zp_Mo_thrown th (fun r13 => (r13 = code → (¬ code = 0 → V) ∧ (code = 0 → vp_in 0 1 ∧ ((lg_cmp (out (0 : Int32).toNatClampNeg) r.toInt64 = 0 → V) ∧ (¬ lg_cmp (out (0 : Int32).toNatClampNeg) r.toInt64 = 0 → False)))) ∧ (¬ r13 = code → False)) :=
  ⟨fun _ => ⟨fun _ => I, fun z => ⟨z_01, fun _ => I, fun w => w ((lg_cmp_eq _ _).mpr (v z))⟩⟩, fun z => z e⟩
theorem zcmp_l {th code : Int32} {r : Int64} {out : Nat → Int64} {V : Prop} (e : th = code) (v : code = 0 → out (0 : Int32).toNatClampNeg = r) (I : V) : zp_Mo_thrown th (fun r13 => (r13 = code → (¬ code = 0 → V) ∧ (code = 0 → vp_in 0 1 ∧ ((lg_cmp (out (0 : Int32).toNatClampNeg) r = 0 → V) ∧ (¬ lg_cmp (out (0 : Int32).toNatClampNeg) r = 0 → False)))) ∧ (¬ r13 = code → False)) :=
  ⟨fun _ => ⟨fun _ => I, fun z => ⟨z_01, fun _ => I, fun w => w ((lg_cmp_eq _ _).mpr (v z))⟩⟩, fun z => z e⟩
theorem zcmp_b {th code r : Int32} {out : Nat → Int64} {V : Prop} (e : th = code) (v : code = 0 → (r = 0 ∧ out (0 : Int32).toNatClampNeg = 0) ∨ (r = 1 ∧ out (0 : Int32).toNatClampNeg = 1)) (I : V) : zp_Mo_thrown th (fun r13 => (r13 = code → (¬ code = 0 → V) ∧ (code = 0 → vp_in 0 1 ∧ ((r = 0 → (lg_cmp (out (0 : Int32).toNatClampNeg) 0 = 0 → V) ∧ (¬ lg_cmp (out (0 : Int32).toNatClampNeg) 0 = 0 → False)) ∧
    (¬ r = 0 → (lg_cmp (out (0 : Int32).toNatClampNeg) 1 = 0 → V) ∧ (¬ lg_cmp (out (0 : Int32).toNatClampNeg) 1 = 0 → False))))) ∧ (¬ r13 = code → False)) :=
  ⟨fun _ => ⟨fun _ => I, fun z => ⟨z_01, fun y => ⟨fun _ => I, fun w => w ((lg_cmp_eq _ _).mpr (by
    rcases v z with q | q
    · exact q.2
    · rw [y] at q; exact absurd q.1 (by decide)))⟩, fun y => ⟨fun _ => I, fun w => w ((lg_cmp_eq _ _).mpr (by
    rcases v z with q | q
    · exact absurd q.1 y
    · exact q.2))⟩⟩⟩, fun z => z e⟩
