/-! bits -/
theorem bt_1 (i : Nat) : bt 1 i = decide (i = 0) := by
  rcases Nat.lt_or_ge i 32 with h | h
  · exact (by decide +kernel : ∀ i, i < 32 → bt 1 i = decide (i = 0)) i h
  · rw [b_big h, decide_eq_false (by omega)]
theorem and1_0 (y : Int32) : y &&& 1 = 0 ↔ bt y 0 = false := by
  constructor
  · intro h
    have h1 : bt (y &&& 1) 0 = bt 0 0 := by rw [h]
    rw [b_and, bt_1, b_0] at h1
    simpa using h1
  · intro h
    apply b_ext
    intro i hi
    rw [b_and, bt_1, b_0]
    by_cases e : i = 0
    · subst e; simp [h]
    · simp [e]
theorem and1_1 (y : Int32) : y &&& 1 = 1 ↔ bt y 0 = true := by
  constructor
  · intro h
    have h1 : bt (y &&& 1) 0 = bt 1 0 := by rw [h]
    rw [b_and, bt_1] at h1
    simpa using h1
  · intro h
    apply b_ext
    intro i hi
    rw [b_and, bt_1]
    by_cases e : i = 0
    · subst e; simp [h]
    · simp [e]
theorem bb_bt {x : Int32} {j : Nat} (hj : j < 32) : bb x j = bt x j := by
  have h0 : bt (x >>> (nI j &&& 31)) 0 = bt x j := by
    rw [b_sshr j hj x (by omega), if_pos (by omega), Nat.add_zero]
  unfold bb
  cases h : bt x j with
  | false => exact decide_eq_false (fun q => q ((and1_0 _).mpr (h0.trans h)))
  | true => exact decide_eq_true (fun q => by rw [and1_0, h0, h] at q; cases q)
theorem bb1 {x : Int32} {j : Nat} (hj : j < 32) : (x >>> (nI j &&& 31)) &&& 1 = 1 ↔ bb x j = true := by
  rw [and1_1, b_sshr j hj x (by omega), if_pos (by omega), Nat.add_zero, bb_bt hj]
theorem bb0 {x : Int32} {j : Nat} (hj : j < 32) : (x >>> (nI j &&& 31)) &&& 1 = 0 ↔ bb x j = false := by
  rw [and1_0, b_sshr j hj x (by omega), if_pos (by omega), Nat.add_zero, bb_bt hj]
theorem bbv {x : Int32} {j : Nat} (hj : j < 32) : (x >>> (nI j &&& 31)) &&& 1 = bz (bb x j) := by
  cases h : bb x j with
  | false => exact (bb0 hj).mpr h
  | true => exact (bb1 hj).mpr h
theorem bt_nI (m i : Nat) (hi : i < 32) : bt (nI m) i = m.testBit i := by
  show (BitVec.ofNat 32 m).getLsbD i = _
  rw [BitVec.getLsbD_ofNat]
  simp [hi]
theorem bb_nI {m i : Nat} (hi : i < 32) : bb (nI m) i = m.testBit i := by rw [bb_bt hi, bt_nI m i hi]
/-- the lowest bit's place -/
def lowb (m : Nat) : Nat := fa_first (fun i => m.testBit i) 32
theorem low_dec {m : Nat} (h : 0 < m) (hm : m < 2 ^ 31) : lowb m < 31 ∧ ∃ q, m = 2 ^ (lowb m) * (2 * q + 1) := by
  have hex : ∃ i, i < 31 ∧ m.testBit i = true := by
    obtain ⟨i, hi⟩ := Nat.exists_testBit_of_ne_zero (by omega : m ≠ 0)
    refine ⟨i, ?_, hi⟩
    rcases Nat.lt_or_ge i 31 with q | q
    · exact q
    · rw [Nat.testBit_lt_two_pow (Nat.lt_of_lt_of_le hm (Nat.pow_le_pow_right (by omega) q))] at hi; cases hi
  obtain ⟨i, hi, hb⟩ := hex
  have hle : lowb m ≤ i := by
    rcases Nat.lt_or_ge i (lowb m) with q | q
    · rw [fa_first_no _ 32 i q] at hb; cases hb
    · exact q
  have hlt : lowb m < 32 := by omega
  have hyes : m.testBit (lowb m) = true := fa_first_yes (fun i => m.testBit i) 32 hlt
  have hno : ∀ j, j < lowb m → m.testBit j = false := fun j hj => fa_first_no (fun i => m.testBit i) 32 j hj
  refine ⟨by omega, m / 2 ^ (lowb m + 1), ?_⟩
  generalize lowb m = k at hyes hno
  have h1 : m % 2 ^ k = 0 := by
    apply Nat.eq_of_testBit_eq
    intro j
    rw [Nat.testBit_mod_two_pow, Nat.zero_testBit]
    by_cases hj : j < k
    · rw [hno j hj]; simp
    · simp [hj]
  have h2 : m / 2 ^ k % 2 = 1 := by
    rw [Nat.testBit_eq_decide_div_mod_eq] at hyes
    exact of_decide_eq_true hyes
  have h3 : m = 2 ^ k * (m / 2 ^ k) := by
    have := Nat.div_add_mod m (2 ^ k)
    omega
  have h4 : m / 2 ^ (k + 1) = m / 2 ^ k / 2 := by rw [Nat.pow_succ, Nat.div_div_eq_div_mul]
  rw [h4]
  have h5 : m / 2 ^ k = 2 * (m / 2 ^ k / 2) + 1 := by omega
  rw [← h5]; exact h3
theorem nI_tb (m : Nat) : (nI m).toBitVec = BitVec.ofNat 32 m := rfl
theorem low_mask {m : Nat} (h : 0 < m) (hm : m < 2 ^ 31) : (nI m ^^^ (-1)) &&& (nI m - 1) = nI (2 ^ (lowb m) - 1) := by
  obtain ⟨hk, q, hq⟩ := low_dec h hm
  generalize lowb m = k at hk hq
  have e1 : nI m - 1 = nI (m - 1) := by
    rw [show m = (m - 1) + 1 by omega]; exact nI_pred _
  rw [e1]
  apply b_ext
  intro i hi
  rw [b_and, b_xor, b_m1 i hi, bt_nI _ _ hi, bt_nI _ _ hi, bt_nI _ _ hi, Nat.testBit_two_pow_sub_one]
  have hp : 0 < 2 ^ k := Nat.two_pow_pos k
  have e2 : m - 1 = 2 ^ k * (2 * q) + (2 ^ k - 1) := by
    rw [hq, Nat.mul_add]; omega
  have e3 : m = 2 ^ k * (2 * q + 1) + 0 := by omega
  rw [e2]
  conv => lhs; lhs; rw [e3]
  rw [Nat.testBit_two_pow_mul_add (2 * q) (by omega : 2 ^ k - 1 < 2 ^ k), Nat.testBit_two_pow_mul_add (2 * q + 1) hp]
  by_cases hik : i < k
  · simp [hik, Nat.testBit_two_pow_sub_one]
  · rw [if_neg hik, if_neg hik]
    by_cases e : i - k = 0
    · rw [e]; simp [hik, Nat.testBit_zero]
    · obtain ⟨j, hj⟩ : ∃ j, i - k = j + 1 := ⟨i - k - 1, by omega⟩
      rw [hj]
      simp only [Nat.testBit_succ]
      rw [show (2 * q + 1) / 2 = q by omega, show (2 * q) / 2 = q by omega]
      simp [hik]
theorem itz_mask : ∀ k, k < 31 → itz0 (nI (2 ^ k - 1)) = nI k := by decide +kernel
theorem itz_low {m : Nat} (h : 0 < m) (hm : m < 2 ^ 31) : itz (nI m) = nI (lowb m) := by
  rw [itz, low_mask h hm]
  exact itz_mask _ (low_dec h hm).1
theorem lowb_lt {m k : Nat} (h : 0 < m) (hm : m < 2 ^ k) (hk : k ≤ 31) : lowb m < k := by
  have hm31 : m < 2 ^ 31 := Nat.lt_of_lt_of_le hm (Nat.pow_le_pow_right (by omega) hk)
  obtain ⟨-, q, hq⟩ := low_dec h hm31
  rcases Nat.lt_or_ge (lowb m) k with z | z
  · exact z
  · have h1 : 2 ^ k ≤ 2 ^ lowb m := Nat.pow_le_pow_right (by omega) z
    have h2 : 2 ^ lowb m * 1 ≤ 2 ^ lowb m * (2 * q + 1) := Nat.mul_le_mul_left _ (by omega)
    omega
theorem lowb_bit {m : Nat} (h : 0 < m) (hm : m < 2 ^ 31) : m.testBit (lowb m) = true := by
  have := (low_dec h hm).1
  exact fa_first_yes (fun i => m.testBit i) 32 (show lowb m < 32 by omega)
theorem lowb_no {m j : Nat} (hj : j < lowb m) : m.testBit j = false := fa_first_no (fun i => m.testBit i) 32 j hj
theorem nI_neg {m : Nat} (h : 0 < m) (hm : m < 2 ^ 31) : -nI m = nI (2 ^ 32 - m) := by
  apply Int32.toBitVec_inj.1
  rw [Int32.toBitVec_neg]
  show -(BitVec.ofNat 32 m) = BitVec.ofNat 32 (2 ^ 32 - m)
  apply BitVec.eq_of_toNat_eq
  rw [BitVec.toNat_neg, BitVec.toNat_ofNat, BitVec.toNat_ofNat]
  omega
theorem low_bit {m : Nat} (h : 0 < m) (hm : m < 2 ^ 31) : nI m &&& (-nI m) = nI (2 ^ lowb m) := by
  obtain ⟨hk, q, hq⟩ := low_dec h hm
  generalize lowb m = k at hk hq
  rw [nI_neg h hm]
  apply b_ext
  intro i hi
  rw [b_and, bt_nI _ _ hi, bt_nI _ _ hi, bt_nI _ _ hi]
  have hp : 0 < 2 ^ k := Nat.two_pow_pos k
  have hpk : 2 ^ k * 2 ^ (31 - k) = 2 ^ 31 := by rw [← Nat.pow_add]; congr 1; omega
  have hqlt : q < 2 ^ (31 - k) := by
    rcases Nat.lt_or_ge q (2 ^ (31 - k)) with z | z
    · exact z
    · have h1 : 2 ^ k * 2 ^ (31 - k) ≤ 2 ^ k * q := Nat.mul_le_mul_left _ z
      have h2 : 2 ^ k * q ≤ 2 ^ k * (2 * q + 1) := Nat.mul_le_mul_left _ (by omega)
      omega
  have e2 : 2 ^ 32 - m = 2 ^ k * (2 * (2 ^ (31 - k) - (q + 1)) + 1) + 0 := by
    have h1 : 2 ^ k * (2 * (2 ^ (31 - k) - (q + 1)) + 1) + 2 ^ k * (2 * q + 1) = 2 ^ 32 := by
      rw [← Nat.mul_add, show 2 * (2 ^ (31 - k) - (q + 1)) + 1 + (2 * q + 1) = 2 ^ (31 - k) * 2 by omega, ← Nat.mul_assoc, hpk]
    omega
  have e3 : m = 2 ^ k * (2 * q + 1) + 0 := by omega
  rw [e2]
  conv => lhs; lhs; rw [e3]
  rw [Nat.testBit_two_pow_mul_add _ hp, Nat.testBit_two_pow_mul_add _ hp]
  by_cases hik : i < k
  · have : i ≠ k := by omega
    rw [if_pos hik, Nat.testBit_two_pow]
    simp; omega
  · rw [if_neg hik, if_neg hik]
    by_cases e : i - k = 0
    · have : i = k := by omega
      subst this
      simp [Nat.testBit_zero, Nat.testBit_two_pow_self]
    · obtain ⟨j, hj⟩ : ∃ j, i - k = j + 1 := ⟨i - k - 1, by omega⟩
      rw [hj]
      simp only [Nat.testBit_succ]
      rw [show (2 * q + 1) / 2 = q by omega, show (2 * (2 ^ (31 - k) - (q + 1)) + 1) / 2 = 2 ^ (31 - k) - (q + 1) by omega, Nat.testBit_two_pow_sub_succ hqlt, Nat.testBit_two_pow]
      have : k ≠ i := by omega
      cases q.testBit j <;> simp [this]
