/-! all that is kept, together, and that each call keeps it -/
def zj_r (rb rt rx : Int32) : Prop := (0 ≤ rb.toInt ∧ rb.toInt ≤ 100000) ∧ (0 ≤ rt.toInt ∧ rt.toInt ≤ 100000) ∧ 0 ≤ rx.toInt ∧ rx.toInt ≤ 100000
def zj (oc od io ia fi cf cv cg cc ui ud uk ut : Nat → Int32) (rb rt rx : Int32) (qi : Nat → Int32) (qc : Nat → Int64) (qa al : Nat → Int32) (au : Nat → Int64) (ka kd kk : Nat → Int32) (cap : Int32) (no ni nu nq t : Nat) : Prop :=
  t ≤ 9999 ∧ zj_o oc od no ∧ zj_i io fi no ni ∧ (∀ i, ni ≤ i → ia i = 0) ∧ zj_c cf cv cg cc ni ∧ zj_u ui ud uk ut ni nu t ∧ zj_r rb rt rx ∧ zj_q qi qa qc ni nq ∧ zj_a oc io qi qa al qc au nq ∧ zj_k ka kd kk ni cap.toInt
section ZK
variable {oc od io ia fi cf cv cg cc ui ud uk ut : Nat → Int32} {rb rt rx : Int32} {qi : Nat → Int32} {qc : Nat → Int64} {qa al : Nat → Int32} {au : Nat → Int64} {ka kd kk : Nat → Int32} {cap : Int32} {no ni nu nq t : Nat}
theorem zj_0 : zj (fun _ => 0) (fun _ => 0) (fun _ => 0) (fun _ => 0) (fun _ => 0) (fun _ => 0) (fun _ => 0) (fun _ => 0) (fun _ => 0) (fun _ => 0) (fun _ => 0) (fun _ => 0) (fun _ => 0) 0 0 0 (fun _ => 0) (fun _ => 0) (fun _ => 0) (fun _ => 0) (fun _ => 0) (fun _ => 0) (fun _ => 0) (fun _ => 0) 0 0 0 0 0 0 := by
  have z : ∀ {p : Nat → Prop} (j : Nat), j < 0 → p j := fun j h => absurd h (Nat.not_lt_zero j)
  refine ⟨by omega, ⟨by omega, z, z⟩, ⟨by omega, z, fun j f h _ => absurd h (Nat.not_lt_zero j), fun _ _ => rfl⟩, fun _ _ => rfl, ⟨fun _ => ⟨0, by omega, rfl⟩, fun _ _ => rfl, fun i j h => ?_⟩, ⟨by omega, z, z, z, fun j k _ h => absurd h (Nat.not_lt_zero k), fun i _ => zi_0⟩, ?_, ⟨by omega, z, z, fun _ _ => rfl⟩, ⟨fun c _ => ?_, fun c _ => ?_⟩, ⟨fun j h => absurd rfl h, ?_⟩⟩
  · rw [z_c0] at h; exact absurd h (Nat.not_lt_zero j)
  · unfold zj_r; rw [zi_0]; omega
  · show (0 : Int64).toInt = 0
    decide
  · rw [zi_0]; omega
  · rw [zi_0]; omega
theorem zk_order {c d : Int32} (h : zj oc od io ia fi cf cv cg cc ui ud uk ut rb rt rx qi qc qa al au ka kd kk cap no ni nu nq t) (hn : no < 30) (hc : 0 ≤ c.toInt ∧ c.toInt ≤ 9) (hd : (t : Int) ≤ d.toInt ∧ d.toInt ≤ 9999) :
    zj (upd oc no c) (upd od no d) io ia fi cf cv cg cc ui ud uk ut rb rt rx qi qc qa al au ka kd kk cap (no + 1) ni nu nq t := by
  obtain ⟨h0, h1, h2, h3, h4, h5, h6, h7, h8, h9⟩ := h
  exact ⟨h0, zj_o_add h1 hn hc (by omega), zj_i_order h2, h3, h4, h5, h6, h7, zj_a_order h1 h2 h7 h8, h9⟩
theorem zk_newitem {fi' : Nat → Int32} {o : Nat} (h : zj oc od io ia fi cf cv cg cc ui ud uk ut rb rt rx qi qc qa al au ka kd kk cap no ni nu nq t) (hn : ni < 60) (ho : o < no) (e : ∀ k, k < 6 * ni → fi' k = fi k) (hv : ∀ f, f < 6 → zv_ok f (fi' (6 * ni + f)).toInt 0) (z : ∀ k, 6 * (ni + 1) ≤ k → fi' k = 0) :
    zj oc od (upd io ni (nI o)) ia fi' cf cv cg cc ui ud uk ut rb rt rx qi qc qa al au ka kd kk cap no (ni + 1) nu nq t := by
  obtain ⟨h0, h1, h2, h3, h4, h5, h6, h7, h8, h9⟩ := h
  exact ⟨h0, h1, zj_i_add h2 hn ho e hv z, fun i hi => h3 i (by omega), zj_c_item h4, zj_u_item h5, h6, zj_q_item h7, zj_a_item h7 h2.1 h8, zj_k_item h9⟩
theorem zk_item {a b c : Int32} {o : Nat} (h : zj oc od io ia fi cf cv cg cc ui ud uk ut rb rt rx qi qc qa al au ka kd kk cap no ni nu nq t) (hn : ni < 60) (ho : o < no) (ha : 1 ≤ a.toInt ∧ a.toInt ≤ 100000) (hb : 1 ≤ b.toInt ∧ b.toInt ≤ 100000) (hc : 1 ≤ c.toInt ∧ c.toInt ≤ 100000) :
    zj oc od (upd io ni (nI o)) ia (upd (upd (upd (upd fi (6 * ni + 0) a) (6 * ni + 1) b) (6 * ni + 2) c) (6 * ni + 5) (od o)) cf cv cg cc ui ud uk ut rb rt rx qi qc qa al au ka kd kk cap no (ni + 1) nu nq t := by
  have hz := h.2.2.1.2.2.2
  have hd := h.2.1.2.2 o ho
  refine zk_newitem h hn ho (fun k hk => ?_) (fun f hf => ?_) (fun k hk => ?_)
  · rw [up_n _ _ (by omega), up_n _ _ (by omega), up_n _ _ (by omega), up_n _ _ (by omega)]
  · unfold zv_ok
    obtain rfl | rfl | rfl | rfl | rfl | rfl : f = 0 ∨ f = 1 ∨ f = 2 ∨ f = 3 ∨ f = 4 ∨ f = 5 := by omega
    · rw [up_n _ _ (by omega), up_n _ _ (by omega), up_n _ _ (by omega), up_s]; omega
    · rw [up_n _ _ (by omega), up_n _ _ (by omega), up_s]; omega
    · rw [up_n _ _ (by omega), up_s]; omega
    · rw [up_n _ _ (by omega), up_n _ _ (by omega), up_n _ _ (by omega), up_n _ _ (by omega), hz _ (by omega), zi_0]; omega
    · rw [up_n _ _ (by omega), up_n _ _ (by omega), up_n _ _ (by omega), up_n _ _ (by omega), hz _ (by omega), zi_0]; omega
    · rw [up_s]; omega
  · rw [up_n _ _ (by omega), up_n _ _ (by omega), up_n _ _ (by omega), up_n _ _ (by omega)]; exact hz k (by omega)
theorem zk_change {i f c : Nat} {v g : Int32} (h : zj oc od io ia fi cf cv cg cc ui ud uk ut rb rt rx qi qc qa al au ka kd kk cap no ni nu nq t) (hi : i < ni) (hc : cc i = nI c) (hc20 : c < 20) (hf : f < 6) (hv : zv_ok f v.toInt 0) (hg : 0 ≤ g.toInt ∧ g.toInt ≤ 9999) :
    zj oc od io ia fi (upd cf (20 * i + c) (nI f)) (upd cv (20 * i + c) v) (upd cg (20 * i + c) g) (upd cc i (nI (c + 1))) ui ud uk ut rb rt rx qi qc qa al au ka kd kk cap no ni nu nq t := by
  obtain ⟨h0, h1, h2, h3, h4, h5, h6, h7, h8, h9⟩ := h
  exact ⟨h0, h1, h2, h3, zj_c_add h4 hi hc hc20 hf hv hg, h5, h6, h7, h8, h9⟩
theorem zk_agree {i : Nat} {r : Int32} (h : zj oc od io ia fi cf cv cg cc ui ud uk ut rb rt rx qi qc qa al au ka kd kk cap no ni nu nq t) (hi : i < ni) :
    zj oc od io (upd ia i r) fi cf cv cg cc ui ud uk ut rb rt rx qi qc qa al au ka kd kk cap no ni nu nq t := by
  obtain ⟨h0, h1, h2, h3, h4, h5, h6, h7, h8, h9⟩ := h
  exact ⟨h0, h1, h2, fun j hj => by rw [up_n _ _ (by omega)]; exact h3 j hj, h4, h5, h6, h7, h8, h9⟩
theorem zk_made {i : Nat} {q : Int32} (h : zj oc od io ia fi cf cv cg cc ui ud uk ut rb rt rx qi qc qa al au ka kd kk cap no ni nu nq t) (hn : nu < 200) (hi : i < ni) (hq : 1 ≤ q.toInt ∧ q.toInt ≤ 1000000) :
    zj oc od io ia fi cf cv cg cc (upd ui nu (nI i)) (upd ud nu (nI t)) (upd uk nu q) (upd ut i (ut i + q)) rb rt rx qi qc qa al au ka kd kk cap no ni (nu + 1) nq t := by
  obtain ⟨h0, h1, h2, h3, h4, h5, h6, h7, h8, h9⟩ := h
  exact ⟨h0, h1, h2, h3, h4, zj_u_add h5 hn h0 h2.1 hi hq, h6, h7, h8, h9⟩
theorem zk_costs {a b c : Int32} (h : zj oc od io ia fi cf cv cg cc ui ud uk ut rb rt rx qi qc qa al au ka kd kk cap no ni nu nq t) (hr : zj_r a b c) :
    zj oc od io ia fi cf cv cg cc ui ud uk ut a b c qi qc qa al au ka kd kk cap no ni nu nq t := by
  obtain ⟨h0, h1, h2, h3, h4, h5, h6, h7, h8, h9⟩ := h
  exact ⟨h0, h1, h2, h3, h4, h5, hr, h7, h8, h9⟩
theorem zk_credit {c : Nat} {v : Int32} (h : zj oc od io ia fi cf cv cg cc ui ud uk ut rb rt rx qi qc qa al au ka kd kk cap no ni nu nq t) (hv : 0 ≤ v.toInt ∧ v.toInt ≤ 2000000000) :
    zj oc od io ia fi cf cv cg cc ui ud uk ut rb rt rx qi qc qa (upd al c v) au ka kd kk cap no ni nu nq t := by
  obtain ⟨h0, h1, h2, h3, h4, h5, h6, h7, h8, h9⟩ := h
  refine ⟨h0, h1, h2, h3, h4, h5, h6, h7, ⟨h8.1, fun k hk => ?_⟩, h9⟩
  by_cases e : k = c
  · subst e; rw [up_s]; exact hv
  · rw [up_n _ _ e]; exact h8.2 k hk
theorem zk_accept {j i o c : Nat} (h : zj oc od io ia fi cf cv cg cc ui ud uk ut rb rt rx qi qc qa al au ka kd kk cap no ni nu nq t) (hj : j < nq) (h0 : qa j = 0) (hi : i < 60) (ei : qi j = nI i) (ho : o < 30) (eo : io i = nI o) (hc : c < 10) (ec : oc o = nI c) :
    zj oc od io ia fi cf cv cg cc ui ud uk ut rb rt rx qi qc (upd qa j 1) al (vp_updL au c (au c + qc j)) ka kd kk cap no ni nu nq t := by
  obtain ⟨g0, h1, h2, h3, h4, h5, h6, h7, h8, h9⟩ := h
  exact ⟨g0, h1, h2, h3, h4, h5, h6, zj_q_accept h7 hj, zj_a_accept h7 h8 hj h0 hi ei ho eo hc ec, h9⟩
theorem zk_capacity {v : Int32} (h : zj oc od io ia fi cf cv cg cc ui ud uk ut rb rt rx qi qc qa al au ka kd kk cap no ni nu nq t) (hv : 0 ≤ v.toInt ∧ v.toInt ≤ 100000000) :
    zj oc od io ia fi cf cv cg cc ui ud uk ut rb rt rx qi qc qa al au ka kd kk v no ni nu nq t := by
  obtain ⟨h0, h1, h2, h3, h4, h5, h6, h7, h8, h9⟩ := h
  exact ⟨h0, h1, h2, h3, h4, h5, h6, h7, h8, h9.1, hv⟩
theorem zk_reserve {i d : Nat} {kl : Int32} (h : zj oc od io ia fi cf cv cg cc ui ud uk ut rb rt rx qi qc qa al au ka kd kk cap no ni nu nq t) (hi : i < ni) (hd : d ≤ 9999) (hk : 0 ≤ kl.toInt ∧ kl.toInt ≤ 1000000) :
    zj oc od io ia fi cf cv cg cc ui ud uk ut rb rt rx qi qc qa al au (upd ka i 1) (upd kd i (nI d)) (upd kk i kl) cap no ni nu nq t := by
  obtain ⟨h0, h1, h2, h3, h4, h5, h6, h7, h8, h9⟩ := h
  exact ⟨h0, h1, h2, h3, h4, h5, h6, h7, h8, zj_k_take h9 hi hd hk⟩
theorem zk_tick {t' : Nat} (h : zj oc od io ia fi cf cv cg cc ui ud uk ut rb rt rx qi qc qa al au ka kd kk cap no ni nu nq t) (h1 : t ≤ t') (h2 : t' ≤ 9999) :
    zj oc od io ia fi cf cv cg cc ui ud uk ut rb rt rx qi qc qa al au ka kd kk cap no ni nu nq t' := by
  obtain ⟨g0, g1, g2, g3, g4, g5, g6, g7, g8, g9⟩ := h
  exact ⟨h2, g1, g2, g3, g4, zj_u_tick g5 (by omega), g6, g7, g8, g9⟩
/-! the cents of a quote -/
theorem zq_c_i {m w : Int32} (hm : 0 ≤ m.toInt ∧ m.toInt ≤ 1000000) (hw : 0 ≤ w.toInt ∧ w.toInt ≤ 100000) (hr : zj_r rb rt rx) :
    (zq_c m w rb rt rx).toInt = rb.toInt + ((m.toInt + 999) / 1000) * rt.toInt + w.toInt * rx.toInt ∧ 0 ≤ (zq_c m w rb rt rx).toInt ∧ (zq_c m w rb rt rx).toInt ≤ 11000000000 := by
  obtain ⟨h1, h2, h3⟩ := hr
  have e9 : (999 : Int64).toInt = 999 := by decide
  have e1 : (1000 : Int64).toInt = 1000 := by decide
  have a1 : (m.toInt64 + 999).toInt = m.toInt + 999 := by
    rw [zi_add6 (by rw [Int32.toInt_toInt64, e9]; omega) (by rw [Int32.toInt_toInt64, e9]; omega), Int32.toInt_toInt64, e9]
  have a2 : ((m.toInt64 + 999) / 1000).toInt = (m.toInt + 999) / 1000 := by
    rw [lg_ldiv_nonneg (by rw [a1]; omega) (by rw [e1]; omega), a1, e1]
  have b0 : 0 ≤ (m.toInt + 999) / 1000 ∧ (m.toInt + 999) / 1000 ≤ 1000 := by omega
  have p1 : 0 ≤ ((m.toInt + 999) / 1000) * rt.toInt := Int.mul_nonneg b0.1 h2.1
  have p2 : ((m.toInt + 999) / 1000) * rt.toInt ≤ 1000 * 100000 := Int.mul_le_mul b0.2 h2.2 h2.1 (by omega)
  have p3 : 0 ≤ w.toInt * rx.toInt := Int.mul_nonneg hw.1 h3.1
  have p4 : w.toInt * rx.toInt ≤ 100000 * 100000 := Int.mul_le_mul hw.2 h3.2 h3.1 (by omega)
  have a3 : (((m.toInt64 + 999) / 1000) * rt.toInt64).toInt = ((m.toInt + 999) / 1000) * rt.toInt := by
    rw [zi_mul6 (by rw [a2, Int32.toInt_toInt64]; omega) (by rw [a2, Int32.toInt_toInt64]; omega), a2, Int32.toInt_toInt64]
  have a4 : (w.toInt64 * rx.toInt64).toInt = w.toInt * rx.toInt := by
    rw [zi_mul6 (by rw [Int32.toInt_toInt64, Int32.toInt_toInt64]; omega) (by rw [Int32.toInt_toInt64, Int32.toInt_toInt64]; omega), Int32.toInt_toInt64, Int32.toInt_toInt64]
  have a5 : (rb.toInt64 + (((m.toInt64 + 999) / 1000) * rt.toInt64)).toInt = rb.toInt + ((m.toInt + 999) / 1000) * rt.toInt := by
    rw [zi_add6 (by rw [a3, Int32.toInt_toInt64]; omega) (by rw [a3, Int32.toInt_toInt64]; omega), a3, Int32.toInt_toInt64]
  have a6 : (zq_c m w rb rt rx).toInt = rb.toInt + ((m.toInt + 999) / 1000) * rt.toInt + w.toInt * rx.toInt := by
    unfold zq_c
    rw [zi_add6 (by rw [a5, a4]; omega) (by rw [a5, a4]; omega), a5, a4]
  refine ⟨a6, ?_, ?_⟩
  · rw [a6]; omega
  · rw [a6]; omega
theorem zk_quote {i : Nat} {x : Int64} (h : zj oc od io ia fi cf cv cg cc ui ud uk ut rb rt rx qi qc qa al au ka kd kk cap no ni nu nq t) (hn : nq < 60) (hi : i < ni) (hx : 0 ≤ x.toInt ∧ x.toInt ≤ 11000000000) :
    zj oc od io ia fi cf cv cg cc ui ud uk ut rb rt rx (upd qi nq (nI i)) (vp_updL qc nq x) qa al au ka kd kk cap no ni nu (nq + 1) t := by
  obtain ⟨h0, h1, h2, h3, h4, h5, h6, h7, h8, h9⟩ := h
  exact ⟨h0, h1, h2, h3, h4, h5, h6, zj_q_add h7 hn hi hx, zj_a_quote h7 h8, h9⟩
/-- a split: its item first, then its changes -/
theorem zk_split {i c : Nat} {q y : Int32} (h : zj oc od io ia fi cf cv cg cc ui ud uk ut rb rt rx qi qc qa al au ka kd kk cap no ni nu nq t) (hi : i < ni) (hn : ni < 60) (hc : cc i = nI c) (hc20 : c + 2 ≤ 20)
    (hq : 1 ≤ q.toInt ∧ q.toInt ≤ (zf_on fi cf cv cg cc i 4 (nI t)).toInt) (hy : y = (if q < zf_on fi cf cv cg cc i 3 (nI t) then q else zf_on fi cf cv cg cc i 3 (nI t))) :
    zj oc od (upd io ni (io i)) ia (upd (upd (zf_cp fi cf cv cg cc i ni 6 (nI t)) (6 * ni + 3) y) (6 * ni + 4) q)
      (upd (upd cf (20 * i + c) 4) (20 * i + (c + 1)) 3) (upd (upd cv (20 * i + c) (zf_on fi cf cv cg cc i 4 (nI t) - q)) (20 * i + (c + 1)) (zf_on fi cf cv cg cc i 3 (nI t) - y)) (upd (upd cg (20 * i + c) (nI t)) (20 * i + (c + 1)) (nI t)) (upd (upd cc i (nI (c + 1))) i (nI (c + 2)))
      ui ud uk ut rb rt rx qi qc qa al au ka kd kk cap no (ni + 1) nu nq t := by
  have hI := h.2.2.1
  have hC := h.2.2.2.2.1
  have ht := h.1
  have h4 := zj_w4 (zj_on (f := 4) (d := nI t) hI hC hi (by omega)) (Or.inr rfl)
  have h3 := zj_w4 (zj_on (f := 3) (d := nI t) hI hC hi (by omega)) (Or.inl rfl)
  have hon : ∀ f, f < 6 → zv_ok f (zf_on fi cf cv cg cc i f (nI t)).toInt 0 := fun f hf => zj_on hI hC hi hf
  generalize e4 : zf_on fi cf cv cg cc i 4 (nI t) = m4 at hq h4 ⊢
  generalize e3 : zf_on fi cf cv cg cc i 3 (nI t) = m3 at hy h3 ⊢
  have hy2 : (0 ≤ y.toInt ∧ y.toInt ≤ 1000000) ∧ y.toInt ≤ m3.toInt := by
    rw [hy]
    by_cases hlt : q < m3
    · rw [if_pos hlt]; rw [zi_lt] at hlt; omega
    · rw [if_neg hlt]; omega
  have s4 : (m4 - q).toInt = m4.toInt - q.toInt := zi_sub (by omega) (by omega)
  have s3 : (m3 - y).toInt = m3.toInt - y.toInt := zi_sub (by omega) (by omega)
  have htI : 0 ≤ (nI t).toInt ∧ (nI t).toInt ≤ 9999 := by rw [zi_n (by omega)]; omega
  obtain ⟨o, ho, eo⟩ := hI.2.1 i hi
  have k1 := zk_change (f := 4) (v := m4 - q) (g := nI t) h hi hc (by omega) (by omega) (by unfold zv_ok; rw [s4]; omega) htI
  have k2 := zk_change (f := 3) (v := m3 - y) (g := nI t) k1 hi (up_s _ _ _) (by omega) (by omega) (by unfold zv_ok; rw [s3]; omega) htI
  rw [eo]
  refine zk_newitem k2 hn ho (fun k hk => ?_) (fun f hf => ?_) (fun k hk => ?_)
  · rw [up_n _ _ (by omega), up_n _ _ (by omega), zf_cp, if_neg (by omega)]
  · by_cases f4 : f = 4
    · subst f4; rw [up_s]; unfold zv_ok; omega
    · by_cases f3 : f = 3
      · subst f3; rw [up_n _ _ (by omega), up_s]; unfold zv_ok; omega
      · rw [up_n _ _ (by omega), up_n _ _ (by omega), zf_cp, if_pos (by omega), Nat.add_sub_cancel_left]
        exact hon f hf
  · rw [up_n _ _ (by omega), up_n _ _ (by omega), zf_cp, if_neg (by omega)]
    exact hI.2.2.2 k (by omega)
end ZK
