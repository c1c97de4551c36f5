/-! numbers of 32 bits as whole numbers -/
theorem zi_bm {a : Int} (h1 : -2147483648 ≤ a) (h2 : a ≤ 2147483647) : a.bmod (2 ^ 32) = a := Int.bmod_eq_of_le (by omega) (by omega)
theorem zi_bm6 {a : Int} (h1 : -9223372036854775808 ≤ a) (h2 : a ≤ 9223372036854775807) : a.bmod (2 ^ 64) = a := Int.bmod_eq_of_le (by omega) (by omega)
theorem zi_add {a b : Int32} (h1 : -2147483648 ≤ a.toInt + b.toInt) (h2 : a.toInt + b.toInt ≤ 2147483647) : (a + b).toInt = a.toInt + b.toInt := by
  rw [Int32.toInt_add, zi_bm h1 h2]
theorem zi_sub {a b : Int32} (h1 : -2147483648 ≤ a.toInt - b.toInt) (h2 : a.toInt - b.toInt ≤ 2147483647) : (a - b).toInt = a.toInt - b.toInt := by
  rw [Int32.toInt_sub, zi_bm h1 h2]
theorem zi_mul {a b : Int32} (h1 : -2147483648 ≤ a.toInt * b.toInt) (h2 : a.toInt * b.toInt ≤ 2147483647) : (a * b).toInt = a.toInt * b.toInt := by
  rw [Int32.toInt_mul, zi_bm h1 h2]
theorem zi_add6 {a b : Int64} (h1 : -9223372036854775808 ≤ a.toInt + b.toInt) (h2 : a.toInt + b.toInt ≤ 9223372036854775807) : (a + b).toInt = a.toInt + b.toInt := by
  rw [Int64.toInt_add, zi_bm6 h1 h2]
theorem zi_mul6 {a b : Int64} (h1 : -9223372036854775808 ≤ a.toInt * b.toInt) (h2 : a.toInt * b.toInt ≤ 9223372036854775807) : (a * b).toInt = a.toInt * b.toInt := by
  rw [Int64.toInt_mul, zi_bm6 h1 h2]
theorem zi_lt {a b : Int32} : a < b ↔ a.toInt < b.toInt := Int32.lt_iff_toInt_lt
theorem zi_le {a b : Int32} : a ≤ b ↔ a.toInt ≤ b.toInt := Int32.le_iff_toInt_le
theorem zi_eq {a b : Int32} : a = b ↔ a.toInt = b.toInt := Int32.toInt_inj.symm
theorem zi_n {n : Nat} (h : n < 2147483648) : (nI n).toInt = (n : Int) := nI_toInt h
theorem zi_c {n : Nat} (h : n < 2147483648) : (nI n).toNatClampNeg = n := by
  show (nI n).toInt.toNat = n
  rw [zi_n h]; omega
theorem zi_nn {a b : Nat} (ha : a < 2147483648) (hb : b < 2147483648) (h : nI a = nI b) : a = b := by
  rw [zi_eq, zi_n ha, zi_n hb] at h; omega
theorem zi_n1 {n : Nat} : nI n + 1 = nI (n + 1) := (Int32.ofNat_add n 1).symm
theorem zi_na {a b : Nat} : nI a + nI b = nI (a + b) := (Int32.ofNat_add a b).symm
theorem zi_nm {a b : Nat} : nI a * nI b = nI (a * b) := (Int32.ofNat_mul a b).symm
theorem zi_np {n : Nat} : nI (n + 1) + (-1) = nI n := by
  rw [← zi_n1, Int32.add_assoc]
  have : (1 : Int32) + (-1) = 0 := by decide
  rw [this, Int32.add_zero]
theorem zi_n1s {n : Nat} : nI (n + 1) - 1 = nI n := by
  rw [← zi_n1, Int32.add_sub_cancel]
theorem zi_in {n N : Nat} (h : n < N) (hN : N < 2147483648) : vp_in (nI n) N := by
  rw [vp_in_iff, zi_n (by omega)]; omega
theorem zi_of {x : Int32} (h : 0 ≤ x.toInt) : ∃ j : Nat, (j : Int) = x.toInt ∧ j < 2147483648 ∧ x = nI j := by
  have hx := Int32.toInt_lt x
  refine ⟨x.toInt.toNat, by omega, by omega, ?_⟩
  rw [zi_eq, zi_n (by omega)]; omega
theorem zi_dec {m : Nat} (h : m < 2147483648) : ∃ w : Int32, nI m + (-1) = w ∧ w.toInt = (m : Int) - 1 := by
  refine ⟨_, rfl, ?_⟩
  have e1 : (-1 : Int32).toInt = -1 := by decide
  rw [zi_add (by rw [zi_n h, e1]; omega) (by rw [zi_n h, e1]; omega), zi_n h, e1]; rfl
theorem zi_0 : (0 : Int32).toInt = 0 := by decide
theorem zi_1 : (1 : Int32).toInt = 1 := by decide
theorem zi_n0 : nI 0 = 0 := by decide
/-! a truth value as a number -/
def zb_ (c : Prop) [Decidable c] : Int32 := if c then 1 else 0
theorem zb_t {c : Prop} [Decidable c] (h : c) : zb_ c = 1 := if_pos h
theorem zb_f {c : Prop} [Decidable c] (h : ¬ c) : zb_ c = 0 := if_neg h
theorem zb_nar (c : Prop) [Decidable c] : narrow .boolean (.int (zb_ c)) = .int (zb_ c) := by
  by_cases h : c
  · rw [zb_t h]; rfl
  · rw [zb_f h]; rfl
theorem zb_br {c : Prop} [Decidable c] {A B : Prop} (a : ¬ c → A) (b : c → B) : (zb_ c = 0 → A) ∧ (¬ zb_ c = 0 → B) := by
  by_cases h : c
  · rw [zb_t h]; exact ⟨fun z => absurd z (by decide), fun _ => b h⟩
  · rw [zb_f h]; exact ⟨fun _ => a h, fun z => absurd rfl z⟩
theorem zb_dec {c d : Prop} [Decidable c] [Decidable d] (h : c ↔ d) : zb_ c = zb_ d := by
  by_cases hc : c
  · rw [zb_t hc, zb_t (h.mp hc)]
  · rw [zb_f hc, zb_f (fun x => hc (h.mpr x))]
theorem zb_and {c d : Prop} [Decidable c] [Decidable d] {K : Int32 → Prop} {R : Prop} (hK : K (zb_ (c ∧ d)))
    (hR : K (zb_ (c ∧ d)) → c → K (zb_ d) → R) : (zb_ c = 0 → K 0) ∧ (¬ zb_ c = 0 → R) := by
  refine zb_br (fun h => ?_) (fun h => ?_)
  · rw [zb_f (fun x : c ∧ d => h x.1)] at hK; exact hK
  · exact hR hK h (by rw [← zb_dec (c := c ∧ d) ⟨fun x => x.2, fun x => ⟨h, x⟩⟩]; exact hK)
/-! sums -/
def zs_m (f : Nat → Int) : Nat → Int
  | 0 => 0
  | n + 1 => zs_m f n + f n
theorem zs_b {f : Nat → Int} {B : Int} : ∀ n : Nat, (∀ j, j < n → 0 ≤ f j ∧ f j ≤ B) → 0 ≤ zs_m f n ∧ zs_m f n ≤ n * B
  | 0, _ => by simp [zs_m]
  | n + 1, h => by
    have h1 := zs_b n (fun j hj => h j (by omega))
    have h2 := h n (by omega)
    have h3 : ((n + 1 : Nat) : Int) * B = n * B + B := by rw [Int.natCast_add, Int.add_mul]; simp
    show 0 ≤ zs_m f n + f n ∧ zs_m f n + f n ≤ _
    omega
theorem zs_e {f g : Nat → Int} : ∀ n : Nat, (∀ j, j < n → f j = g j) → zs_m f n = zs_m g n
  | 0, _ => rfl
  | n + 1, h => by
    show zs_m f n + f n = zs_m g n + g n
    rw [zs_e n (fun j hj => h j (by omega)), h n (by omega)]
theorem zs_z {f : Nat → Int} (k : Nat) : ∀ n : Nat, k ≤ n → (∀ j, k ≤ j → j < n → f j = 0) → zs_m f n = zs_m f k
  | 0, h, _ => by
    have : k = 0 := by omega
    subst this; rfl
  | n + 1, h, h0 => by
    by_cases hk : k = n + 1
    · subst hk; rfl
    · show zs_m f n + f n = _
      rw [zs_z k n (by omega) (fun j h1 h2 => h0 j h1 (by omega)), h0 n (by omega) (by omega), Int.add_zero]
theorem zs_mono {f : Nat → Int} (k : Nat) : ∀ n : Nat, k ≤ n → (∀ j, k ≤ j → j < n → 0 ≤ f j) → zs_m f k ≤ zs_m f n
  | 0, h, _ => by
    have : k = 0 := by omega
    subst this; exact Int.le_refl _
  | n + 1, h, h0 => by
    by_cases hk : k = n + 1
    · subst hk; exact Int.le_refl _
    · have h1 := zs_mono k n (by omega) (fun j h1 h2 => h0 j h1 (by omega))
      have h2 := h0 n (by omega) (by omega)
      show _ ≤ zs_m f n + f n
      omega
/-- one place changed -/
theorem zs_one {f g : Nat → Int} (k : Nat) (e : ∀ j, j ≠ k → f j = g j) : ∀ n : Nat, zs_m f n = zs_m g n + (if k < n then f k - g k else 0)
  | 0 => by simp [zs_m]
  | n + 1 => by
    show zs_m f n + f n = zs_m g n + g n + _
    rw [zs_one k e n]
    by_cases h1 : k < n
    · rw [if_pos h1, if_pos (by omega), e n (by omega)]; omega
    · by_cases h2 : k = n
      · subst h2; rw [if_neg h1, if_pos (by omega)]; omega
      · rw [if_neg h1, if_neg (by omega), e n (by omega)]; omega
theorem up_s (f : Nat → Int32) (k : Nat) (x : Int32) : upd f k x k = x := if_pos rfl
theorem up_n (f : Nat → Int32) {k j : Nat} (x : Int32) (h : j ≠ k) : upd f k x j = f j := if_neg h
theorem ul_s (f : Nat → Int64) (k : Nat) (x : Int64) : vp_updL f k x k = x := if_pos rfl
theorem ul_n (f : Nat → Int64) {k j : Nat} (x : Int64) (h : j ≠ k) : vp_updL f k x j = f j := if_neg h
