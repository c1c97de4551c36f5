/-! what always holds of the numbers that are kept -/
def zj_o (oc od : Nat → Int32) (no : Nat) : Prop := no ≤ 30 ∧ (∀ j, j < no → 0 ≤ (oc j).toInt ∧ (oc j).toInt ≤ 9) ∧ ∀ j, j < no → 0 ≤ (od j).toInt ∧ (od j).toInt ≤ 9999
def zj_i (io fi : Nat → Int32) (no ni : Nat) : Prop := ni ≤ 60 ∧ (∀ j, j < ni → ∃ o, o < no ∧ io j = nI o) ∧ (∀ j f, j < ni → f < 6 → zv_ok f (fi (6 * j + f)).toInt 0) ∧ ∀ k, 6 * ni ≤ k → fi k = 0
def zj_c (cf cv cg cc : Nat → Int32) (ni : Nat) : Prop := (∀ i, ∃ c, c ≤ 20 ∧ cc i = nI c) ∧ (∀ i, ni ≤ i → cc i = 0) ∧
  ∀ i j, j < (cc i).toNatClampNeg → ∃ f, f < 6 ∧ cf (20 * i + j) = nI f ∧ zv_ok f (cv (20 * i + j)).toInt 0 ∧ 0 ≤ (cg (20 * i + j)).toInt ∧ (cg (20 * i + j)).toInt ≤ 9999
def zj_u (ui ud uk ut : Nat → Int32) (ni nu : Nat) (t : Int) : Prop := nu ≤ 200 ∧ (∀ j, j < nu → ∃ i, i < ni ∧ ui j = nI i) ∧ (∀ j, j < nu → 1 ≤ (uk j).toInt ∧ (uk j).toInt ≤ 1000000) ∧
  (∀ j, j < nu → 0 ≤ (ud j).toInt ∧ (ud j).toInt ≤ t) ∧ (∀ j k, j ≤ k → k < nu → (ud j).toInt ≤ (ud k).toInt) ∧ ∀ i, i < 60 → (ut i).toInt = zs_m (zu_a ui uk (nI i)) nu
def zj_q (qi qa : Nat → Int32) (qc : Nat → Int64) (ni nq : Nat) : Prop := nq ≤ 60 ∧ (∀ j, j < nq → ∃ i, i < ni ∧ qi j = nI i) ∧ (∀ j, j < nq → 0 ≤ (qc j).toInt ∧ (qc j).toInt ≤ 11000000000) ∧ ∀ j, nq ≤ j → qa j = 0
def zq_t (oc io qi qa : Nat → Int32) (qc : Nat → Int64) (c : Int32) (j : Nat) : Int := if qa j ≠ 0 ∧ oc (io (qi j).toNatClampNeg).toNatClampNeg = c then (qc j).toInt else 0
def zj_a (oc io qi qa al : Nat → Int32) (qc au : Nat → Int64) (nq : Nat) : Prop := (∀ c, c < 10 → (au c).toInt = zs_m (zq_t oc io qi qa qc (nI c)) nq) ∧ ∀ c, c < 10 → 0 ≤ (al c).toInt ∧ (al c).toInt ≤ 2000000000
def zj_k (ka kd kk : Nat → Int32) (ni : Nat) (cap : Int) : Prop := (∀ j, ka j ≠ 0 → j < ni ∧ (0 ≤ (kd j).toInt ∧ (kd j).toInt ≤ 9999) ∧ 0 ≤ (kk j).toInt ∧ (kk j).toInt ≤ 1000000) ∧ 0 ≤ cap ∧ cap ≤ 100000000
section ZJ
variable {oc od io fi cf cv cg ct cc ui ud uk ut qi qa al ka kd kk : Nat → Int32} {qc au : Nat → Int64} {no ni nu nq : Nat}
/-! what follows for a field on a day -/
theorem zj_on {i f : Nat} {d : Int32} (hI : zj_i io fi no ni) (hC : zj_c cf cv cg cc ni) (hi : i < ni) (hf : f < 6) : zv_ok f (zf_on fi cf cv cg cc i f d).toInt 0 := by
  unfold zf_on zf_v
  rcases zf_fold_mem d (zf_l cf cv cg (nI f) (20 * i) (cc i).toNatClampNeg) (fi (6 * i + f), 0) with h | h
  · rw [h]; exact hI.2.2.1 i f hi hf
  · obtain ⟨j, hj, e, eq⟩ := zf_l_mem _ h
    obtain ⟨g, hg, e2, hv, -⟩ := hC.2.2 i j hj
    rw [eq]
    have : g = f := zi_nn (by omega) (by omega) (e2.symm.trans e)
    subst this
    exact hv
theorem zj_cnt {i : Nat} (hC : zj_c cf cv cg cc ni) : ∃ c, c ≤ 20 ∧ cc i = nI c ∧ (cc i).toNatClampNeg = c := by
  obtain ⟨c, h1, h2⟩ := hC.1 i
  exact ⟨c, h1, h2, by rw [h2]; exact zi_c (by omega)⟩
theorem zj_w4 {v : Int} {f : Nat} (h : zv_ok f v 0) (hf : f = 3 ∨ f = 4) : 0 ≤ v ∧ v ≤ 1000000 := h.2.1 hf
theorem zj_w5 {v : Int} (h : zv_ok 5 v 0) : 0 ≤ v ∧ v ≤ 9999 := h.2.2 rfl
theorem zj_up {i : Nat} {d : Int32} {t : Int} {P : Int32 → Prop} (hU : zj_u ui ud uk ut ni nu t) (hi : i < 60) (h : ∀ r : Int32, r.toInt = zs_m (zu_d ui ud uk (nI i) d) nu → P r) : zp_Out_upTo (nI i) d ui ud uk ut (nI nu) P :=
  zr_upTo hi hU.1 (fun j hj => ⟨by have := (hU.2.2.1 j hj).1; omega, (hU.2.2.1 j hj).2⟩) hU.2.2.2.2.1 (hU.2.2.2.2.2 i hi) h
theorem zj_ok {cap : Int} (hK : zj_k ka kd kk ni cap) : zk_ok ka kk := fun j _ h => (hK.1 j h).2.2
theorem zj_tot {i : Nat} {t : Int} (hU : zj_u ui ud uk ut ni nu t) (hi : i < 60) : 0 ≤ (ut i).toInt ∧ (ut i).toInt ≤ 200000000 := by
  have h := zs_b (f := zu_a ui uk (nI i)) (B := 1000000) nu (fun j hj => by
    have := hU.2.2.1 j hj
    unfold zu_a; split
    · omega
    · omega)
  rw [hU.2.2.2.2.2 i hi]
  have := hU.1
  omega
/-- nothing was made of an item, and no row is of it -/
theorem zj_none {i : Nat} {t : Int} (hU : zj_u ui ud uk ut ni nu t) (hi : i < 60) : ut i = 0 ↔ ∀ j, j < nu → ui j ≠ nI i := by
  have hp : ∀ j, j < nu → 0 ≤ zu_a ui uk (nI i) j := fun j hj => by
    have := hU.2.2.1 j hj
    unfold zu_a; split <;> omega
  rw [zi_eq, zi_0, hU.2.2.2.2.2 i hi]
  constructor
  · intro h j hj e
    have h1 := zs_mono (f := zu_a ui uk (nI i)) (j + 1) nu (by omega) (fun k _ hk => hp k hk)
    have h2 := zs_mono (f := zu_a ui uk (nI i)) 0 j (by omega) (fun k _ hk => hp k (by omega))
    have h3 := hU.2.2.1 j hj
    have h4 : zu_a ui uk (nI i) j = (uk j).toInt := if_pos e
    have h5 : zs_m (zu_a ui uk (nI i)) (j + 1) = zs_m (zu_a ui uk (nI i)) j + zu_a ui uk (nI i) j := rfl
    have h6 : zs_m (zu_a ui uk (nI i)) 0 = 0 := rfl
    rw [h5, h4] at h1
    rw [h6] at h2
    omega
  · intro h
    rw [zs_z (f := zu_a ui uk (nI i)) 0 nu (by omega) (fun j _ hj => if_neg (h j hj))]
    rfl
/-! one more order -/
theorem zj_o_add {c d : Int32} (h : zj_o oc od no) (hn : no < 30) (hc : 0 ≤ c.toInt ∧ c.toInt ≤ 9) (hd : 0 ≤ d.toInt ∧ d.toInt ≤ 9999) : zj_o (upd oc no c) (upd od no d) (no + 1) := by
  refine ⟨by omega, fun j hj => ?_, fun j hj => ?_⟩
  · by_cases e : j = no
    · subst e; rw [up_s]; exact hc
    · rw [up_n _ _ e]; exact h.2.1 j (by omega)
  · by_cases e : j = no
    · subst e; rw [up_s]; exact hd
    · rw [up_n _ _ e]; exact h.2.2 j (by omega)
theorem zj_i_order (h : zj_i io fi no ni) : zj_i io fi (no + 1) ni :=
  ⟨h.1, fun j hj => by obtain ⟨o, h1, h2⟩ := h.2.1 j hj; exact ⟨o, by omega, h2⟩, h.2.2.1, h.2.2.2⟩
theorem zq_t_e {oc' io' qi' qa' : Nat → Int32} {qc' : Nat → Int64} {c : Int32} {j : Nat} (h1 : qa j = qa' j) (h2 : oc (io (qi j).toNatClampNeg).toNatClampNeg = oc' (io' (qi' j).toNatClampNeg).toNatClampNeg) (h3 : qc j = qc' j) : zq_t oc io qi qa qc c j = zq_t oc' io' qi' qa' qc' c j := by
  unfold zq_t; rw [h1, h2, h3]
theorem zj_a_order {c : Int32} (hO : zj_o oc od no) (hI : zj_i io fi no ni) (hQ : zj_q qi qa qc ni nq) (h : zj_a oc io qi qa al qc au nq) : zj_a (upd oc no c) io qi qa al qc au nq := by
  refine ⟨fun k hk => ?_, h.2⟩
  rw [h.1 k hk]
  refine zs_e nq (fun j hj => zq_t_e rfl ?_ rfl)
  obtain ⟨i, h1, h2⟩ := hQ.2.1 j hj
  have hi60 := hI.1
  obtain ⟨o, h3, h4⟩ := hI.2.1 i h1
  have hno := hO.1
  rw [h2, zi_c (by omega), h4, zi_c (by omega), up_n _ _ (by omega)]
/-! one more item -/
theorem zj_i_add {fi' : Nat → Int32} {o : Nat} (h : zj_i io fi no ni) (hn : ni < 60) (ho : o < no) (e : ∀ k, k < 6 * ni → fi' k = fi k) (hv : ∀ f, f < 6 → zv_ok f (fi' (6 * ni + f)).toInt 0) (z : ∀ k, 6 * (ni + 1) ≤ k → fi' k = 0) : zj_i (upd io ni (nI o)) fi' no (ni + 1) := by
  refine ⟨by omega, fun j hj => ?_, fun j f hj hf => ?_, z⟩
  · by_cases e' : j = ni
    · subst e'; exact ⟨o, ho, up_s _ _ _⟩
    · rw [up_n _ _ e']; exact h.2.1 j (by omega)
  · by_cases e' : j = ni
    · subst e'; exact hv f hf
    · rw [e _ (by omega)]; exact h.2.2.1 j f (by omega) hf
theorem zj_c_item (h : zj_c cf cv cg cc ni) : zj_c cf cv cg cc (ni + 1) := ⟨h.1, fun i hi => h.2.1 i (by omega), h.2.2⟩
theorem zj_u_item {t : Int} (h : zj_u ui ud uk ut ni nu t) : zj_u ui ud uk ut (ni + 1) nu t :=
  ⟨h.1, fun j hj => by obtain ⟨i, h1, h2⟩ := h.2.1 j hj; exact ⟨i, by omega, h2⟩, h.2.2⟩
theorem zj_q_item (h : zj_q qi qa qc ni nq) : zj_q qi qa qc (ni + 1) nq :=
  ⟨h.1, fun j hj => by obtain ⟨i, h1, h2⟩ := h.2.1 j hj; exact ⟨i, by omega, h2⟩, h.2.2⟩
theorem zj_k_item {cap : Int} (h : zj_k ka kd kk ni cap) : zj_k ka kd kk (ni + 1) cap :=
  ⟨fun j hj => ⟨by have := (h.1 j hj).1; omega, (h.1 j hj).2⟩, h.2⟩
theorem zj_a_item {v : Int32} (hQ : zj_q qi qa qc ni nq) (hn : ni ≤ 60) (h : zj_a oc io qi qa al qc au nq) : zj_a oc (upd io ni v) qi qa al qc au nq := by
  refine ⟨fun k hk => ?_, h.2⟩
  rw [h.1 k hk]
  refine zs_e nq (fun j hj => zq_t_e rfl ?_ rfl)
  obtain ⟨i, h1, h2⟩ := hQ.2.1 j hj
  rw [h2, zi_c (by omega), up_n _ _ (by omega)]
/-! one more change -/
theorem zj_c_add {i c f : Nat} {v g : Int32} (h : zj_c cf cv cg cc ni) (hi : i < ni) (hc : cc i = nI c) (hc20 : c < 20) (hf : f < 6) (hv : zv_ok f v.toInt 0) (hg : 0 ≤ g.toInt ∧ g.toInt ≤ 9999) :
    zj_c (upd cf (20 * i + c) (nI f)) (upd cv (20 * i + c) v) (upd cg (20 * i + c) g) (upd cc i (nI (c + 1))) ni := by
  refine ⟨fun k => ?_, fun k hk => ?_, fun k j hj => ?_⟩
  · by_cases e : k = i
    · subst e; exact ⟨c + 1, by omega, up_s _ _ _⟩
    · rw [up_n _ _ e]; exact h.1 k
  · rw [up_n _ _ (by omega)]; exact h.2.1 k hk
  · by_cases e : k = i
    · subst e
      rw [up_s, zi_c (by omega)] at hj
      by_cases e2 : j = c
      · subst e2
        rw [up_s, up_s, up_s]
        exact ⟨f, hf, rfl, hv, hg⟩
      · rw [up_n _ _ (by omega), up_n _ _ (by omega), up_n _ _ (by omega)]
        exact h.2.2 k j (by rw [hc, zi_c (by omega)]; omega)
    · rw [up_n _ _ e] at hj
      obtain ⟨c', h1, -, h3⟩ := zj_cnt (i := k) h
      rw [up_n _ _ (by omega), up_n _ _ (by omega), up_n _ _ (by omega)]
      exact h.2.2 k j hj
theorem zf_l_e {cf' cv' cg' : Nat → Int32} {f : Int32} {s : Nat} : ∀ n : Nat, (∀ j, j < n → cf (s + j) = cf' (s + j) ∧ cv (s + j) = cv' (s + j) ∧ cg (s + j) = cg' (s + j)) → zf_l cf cv cg f s n = zf_l cf' cv' cg' f s n
  | 0, _ => rfl
  | n + 1, h => by
    obtain ⟨h1, h2, h3⟩ := h n (by omega)
    show zf_l cf cv cg f s n ++ _ = zf_l cf' cv' cg' f s n ++ _
    rw [zf_l_e n (fun j hj => h j (by omega)), h1, h2, h3]
theorem zf_l_add {i c : Nat} {f g v w : Int32} : zf_l (upd cf (20 * i + c) g) (upd cv (20 * i + c) v) (upd cg (20 * i + c) w) f (20 * i) (c + 1) = zf_l cf cv cg f (20 * i) c ++ (if g = f then [(v, w)] else []) := by
  show zf_l _ _ _ f (20 * i) c ++ _ = _
  rw [up_s, up_s, up_s, zf_l_e (cf := upd cf (20 * i + c) g) (cv := upd cv (20 * i + c) v) (cg := upd cg (20 * i + c) w) (cf' := cf) (cv' := cv) (cg' := cg) c (fun j hj => ⟨up_n _ _ (by omega), up_n _ _ (by omega), up_n _ _ (by omega)⟩)]
theorem zf_l_other {i k c n : Nat} {f g v w : Int32} (hk : k ≠ i) (hc : c < 20) (hn : n ≤ 20) : zf_l (upd cf (20 * i + c) g) (upd cv (20 * i + c) v) (upd cg (20 * i + c) w) f (20 * k) n = zf_l cf cv cg f (20 * k) n :=
  zf_l_e n (fun j hj => ⟨up_n _ _ (by omega), up_n _ _ (by omega), up_n _ _ (by omega)⟩)
/-! one more row of what was made -/
theorem zu_a_add {i : Nat} {q x : Int32} : zs_m (zu_a (upd ui nu (nI i)) (upd uk nu q) x) (nu + 1) = zs_m (zu_a ui uk x) nu + (if nI i = x then q.toInt else 0) := by
  show zs_m _ nu + zu_a _ _ x nu = _
  rw [zs_e (g := zu_a ui uk x) nu (fun j hj => ?_)]
  · congr 1
    unfold zu_a
    rw [up_s, up_s]
  · unfold zu_a
    rw [up_n _ _ (by omega), up_n _ _ (by omega)]
theorem zj_u_add {i : Nat} {q : Int32} {t : Nat} (h : zj_u ui ud uk ut ni nu t) (hn : nu < 200) (ht : t ≤ 9999) (hni : ni ≤ 60) (hi : i < ni) (hq : 1 ≤ q.toInt ∧ q.toInt ≤ 1000000) : zj_u (upd ui nu (nI i)) (upd ud nu (nI t)) (upd uk nu q) (upd ut i (ut i + q)) ni (nu + 1) t := by
  refine ⟨by omega, fun j hj => ?_, fun j hj => ?_, fun j hj => ?_, fun j k hjk hk => ?_, fun k hk => ?_⟩
  · by_cases e : j = nu
    · subst e; exact ⟨i, hi, up_s _ _ _⟩
    · rw [up_n _ _ e]; exact h.2.1 j (by omega)
  · by_cases e : j = nu
    · subst e; rw [up_s]; exact hq
    · rw [up_n _ _ e]; exact h.2.2.1 j (by omega)
  · by_cases e : j = nu
    · subst e; rw [up_s, zi_n (by omega)]; omega
    · rw [up_n _ _ e]; exact h.2.2.2.1 j (by omega)
  · by_cases e : k = nu
    · subst e
      rw [up_s, zi_n (by omega)]
      by_cases e2 : j = k
      · subst e2; rw [up_s, zi_n (by omega)]; omega
      · rw [up_n _ _ e2]; exact (h.2.2.2.1 j (by omega)).2
    · rw [up_n _ _ e, up_n _ _ (by omega)]; exact h.2.2.2.2.1 j k hjk (by omega)
  · rw [zu_a_add, ← h.2.2.2.2.2 k hk]
    by_cases e : k = i
    · subst e
      have hb := zj_tot h hk
      rw [up_s, if_pos rfl, zi_add (by omega) (by omega)]
    · rw [up_n _ _ e, if_neg (fun q => e (zi_nn (by omega) (by omega) q.symm)), Int.add_zero]
theorem zj_u_tick {t t' : Int} (h : zj_u ui ud uk ut ni nu t) (ht : t ≤ t') : zj_u ui ud uk ut ni nu t' :=
  ⟨h.1, h.2.1, h.2.2.1, fun j hj => ⟨(h.2.2.2.1 j hj).1, Int.le_trans (h.2.2.2.1 j hj).2 ht⟩, h.2.2.2.2⟩
/-! one more quote -/
theorem zj_q_add {i : Nat} {x : Int64} (h : zj_q qi qa qc ni nq) (hn : nq < 60) (hi : i < ni) (hx : 0 ≤ x.toInt ∧ x.toInt ≤ 11000000000) : zj_q (upd qi nq (nI i)) qa (vp_updL qc nq x) ni (nq + 1) := by
  refine ⟨by omega, fun j hj => ?_, fun j hj => ?_, fun j hj => h.2.2.2 j (by omega)⟩
  · by_cases e : j = nq
    · subst e; exact ⟨i, hi, up_s _ _ _⟩
    · rw [up_n _ _ e]; exact h.2.1 j (by omega)
  · by_cases e : j = nq
    · subst e; rw [ul_s]; exact hx
    · rw [ul_n _ _ e]; exact h.2.2.1 j (by omega)
theorem zj_a_quote {i : Nat} {x : Int64} (hQ : zj_q qi qa qc ni nq) (h : zj_a oc io qi qa al qc au nq) : zj_a oc io (upd qi nq (nI i)) qa al (vp_updL qc nq x) au (nq + 1) := by
  refine ⟨fun k hk => ?_, h.2⟩
  show _ = zs_m _ nq + zq_t _ _ _ _ _ _ nq
  have e0 : zq_t oc io (upd qi nq (nI i)) qa (vp_updL qc nq x) (nI k) nq = 0 := if_neg (fun q => q.1 (hQ.2.2.2 nq (Nat.le_refl _)))
  rw [e0, Int.add_zero, h.1 k hk]
  exact zs_e nq (fun j hj => zq_t_e rfl (by rw [up_n _ _ (by omega)]) (by rw [ul_n _ _ (by omega)]))
/-! a quote is accepted -/
theorem zj_q_accept {j : Nat} (h : zj_q qi qa qc ni nq) (hj : j < nq) : zj_q qi (upd qa j 1) qc ni nq :=
  ⟨h.1, h.2.1, h.2.2.1, fun k hk => by rw [up_n _ _ (by omega)]; exact h.2.2.2 k hk⟩
theorem zq_sum_b {c : Int32} (h : zj_q qi qa qc ni nq) : 0 ≤ zs_m (zq_t oc io qi qa qc c) nq ∧ zs_m (zq_t oc io qi qa qc c) nq ≤ 660000000000 := by
  have hb := zs_b (f := zq_t oc io qi qa qc c) (B := 11000000000) nq (fun j hj => by
    have := h.2.2.1 j hj
    unfold zq_t; split
    · exact this
    · omega)
  have := h.1
  omega
theorem zj_a_accept {j i o c : Nat} (hQ : zj_q qi qa qc ni nq) (h : zj_a oc io qi qa al qc au nq) (hj : j < nq) (h0 : qa j = 0) (hi : i < 60) (ei : qi j = nI i) (ho : o < 30) (eo : io i = nI o) (hc : c < 10) (ec : oc o = nI c) :
    zj_a oc io qi (upd qa j 1) al qc (vp_updL au c (au c + qc j)) nq := by
  have en : oc (io (qi j).toNatClampNeg).toNatClampNeg = nI c := by rw [ei, zi_c (by omega), eo, zi_c (by omega), ec]
  refine ⟨fun k hk => ?_, h.2⟩
  rw [zs_one (g := zq_t oc io qi qa qc (nI k)) j (fun m hm => zq_t_e (up_n _ _ hm) rfl rfl) nq, if_pos hj, ← h.1 k hk]
  have e0 : zq_t oc io qi qa qc (nI k) j = 0 := if_neg (fun q => q.1 h0)
  rw [e0]
  by_cases e : k = c
  · subst e
    have e1 : zq_t oc io qi (upd qa j 1) qc (nI k) j = (qc j).toInt := if_pos ⟨by rw [up_s]; decide, en⟩
    have hb := zq_sum_b (oc := oc) (io := io) (c := nI k) hQ
    rw [← h.1 k hk] at hb
    have hb2 := hQ.2.2.1 j hj
    rw [e1, ul_s, zi_add6 (by omega) (by omega)]; omega
  · have e1 : zq_t oc io qi (upd qa j 1) qc (nI k) j = 0 := if_neg (fun q => e (zi_nn (by omega) (by omega) (q.2.symm.trans en)))
    rw [e1, ul_n _ _ e]; omega
/-! an item is reserved -/
theorem zj_k_take {i d : Nat} {kl : Int32} {cap : Int} (h : zj_k ka kd kk ni cap) (hi : i < ni) (hd : d ≤ 9999) (hk : 0 ≤ kl.toInt ∧ kl.toInt ≤ 1000000) : zj_k (upd ka i 1) (upd kd i (nI d)) (upd kk i kl) ni cap := by
  refine ⟨fun j hj => ?_, h.2⟩
  by_cases e : j = i
  · subst e
    rw [up_s, up_s, zi_n (by omega)]
    exact ⟨hi, by omega, hk⟩
  · rw [up_n _ _ e] at hj ⊢
    rw [up_n _ _ e]
    exact h.1 j hj
theorem zk_s_take {i : Nat} {d e kl : Int32} (hi : i < 60) (h0 : ka i = 0) : zk_s (upd ka i 1) (upd kd i d) (upd kk i kl) e = zk_s ka kd kk e + (if d = e then kl.toInt else 0) := by
  unfold zk_s
  rw [zs_one (g := zk_t ka kd kk e) i (fun j hj => by unfold zk_t; rw [up_n _ _ hj, up_n _ _ hj, up_n _ _ hj]) 60, if_pos hi]
  have e0 : zk_t ka kd kk e i = 0 := if_neg (fun q => q.1 h0)
  rw [e0]
  congr 1
  unfold zk_t
  rw [up_s, up_s, up_s]
  by_cases h : d = e
  · rw [if_pos h, if_pos ⟨by decide, h⟩]; omega
  · rw [if_neg h, if_neg (fun q => h q.2)]; rfl
end ZJ
