/-! counting bits -/
def nb1 (x : Nat) : Nat := x - (x / 2 &&& 1431655765)
def nb2 (x : Nat) : Nat := (x &&& 858993459) + (x / 4 &&& 858993459)
def nb3 (x : Nat) : Nat := (x + x / 16) &&& 252645135
theorem and_cat (k u p v q : Nat) (hu : u < 2 ^ k) (hp : p < 2 ^ k) : (2 ^ k * v + u) &&& (2 ^ k * q + p) = 2 ^ k * (v &&& q) + (u &&& p) := by
  apply Nat.eq_of_testBit_eq
  intro i
  rw [Nat.testBit_and, Nat.testBit_two_pow_mul_add v hu, Nat.testBit_two_pow_mul_add q hp, Nat.testBit_two_pow_mul_add _ (Nat.and_lt_two_pow u hp)]
  split
  · rw [Nat.testBit_and]
  · rw [Nat.testBit_and]
theorem and_low {k u q p : Nat} (hu : u < 2 ^ k) (hp : p < 2 ^ k) : u &&& (2 ^ k * q + p) = u &&& p := by
  have := and_cat k u p 0 q hu hp
  simpa using this
theorem nb1_cat {a b : Nat} (ha : a < 256) (hb : b < 2 ^ 24) : nb1 (256 * b + a) = 256 * nb1 b + nb1 a := by
  have t1 : ∀ a, a < 256 → ∀ e, e < 2 → (128 * e + a / 2) &&& 85 = a / 2 &&& 1431655765 := by decide +kernel
  unfold nb1
  have e1 : (256 * b + a) / 2 = 2 ^ 8 * (b / 2) + (128 * (b % 2) + a / 2) := by omega
  have e2 : (1431655765 : Nat) = 2 ^ 8 * 5592405 + 85 := by decide
  have h1 : (256 * b + a) / 2 &&& 1431655765 = 2 ^ 8 * (b / 2 &&& 5592405) + (a / 2 &&& 1431655765) := by
    rw [e1, e2, and_cat 8 _ _ _ _ (by omega) (by decide), t1 a ha (b % 2) (Nat.mod_lt _ (by decide)), ← e2]
  have h2 : b / 2 &&& 1431655765 = b / 2 &&& 5592405 := by
    rw [show (1431655765 : Nat) = 2 ^ 24 * 85 + 5592405 by decide]
    exact and_low (by omega) (by decide)
  rw [h1, h2]
  have h3 : (b / 2 &&& 5592405) ≤ b := Nat.le_trans Nat.and_le_left (Nat.div_le_self _ _)
  have h4 : (a / 2 &&& 1431655765) ≤ a := Nat.le_trans Nat.and_le_left (Nat.div_le_self _ _)
  omega
theorem nb2_cat {a b : Nat} (ha : a < 256) (hb : b < 2 ^ 24) : nb2 (256 * b + a) = 256 * nb2 b + nb2 a := by
  have t1 : ∀ a, a < 256 → ∀ e, e < 4 → (64 * e + a / 4) &&& 51 = a / 4 &&& 858993459 := by decide +kernel
  have t2 : ∀ a, a < 256 → a &&& 51 = a &&& 858993459 := by decide +kernel
  unfold nb2
  have e1 : (256 * b + a) / 4 = 2 ^ 8 * (b / 4) + (64 * (b % 4) + a / 4) := by omega
  have e2 : (858993459 : Nat) = 2 ^ 8 * 3355443 + 51 := by decide
  have h1 : (256 * b + a) / 4 &&& 858993459 = 2 ^ 8 * (b / 4 &&& 3355443) + (a / 4 &&& 858993459) := by
    rw [e1, e2, and_cat 8 _ _ _ _ (by omega) (by decide), t1 a ha (b % 4) (Nat.mod_lt _ (by decide)), ← e2]
  have h1' : (256 * b + a) &&& 858993459 = 2 ^ 8 * (b &&& 3355443) + (a &&& 858993459) := by
    rw [show 256 * b + a = 2 ^ 8 * b + a by omega]
    rw [e2, and_cat 8 _ _ _ _ (by omega) (by decide), t2 a ha, ← e2]
  have e3 : (858993459 : Nat) = 2 ^ 24 * 51 + 3355443 := by decide
  have h2 : b / 4 &&& 858993459 = b / 4 &&& 3355443 := by
    rw [e3]; exact and_low (by omega) (by decide)
  have h2' : b &&& 858993459 = b &&& 3355443 := by
    rw [e3]; exact and_low (by omega) (by decide)
  rw [h1, h1', h2, h2']
  omega
theorem nb3_cat {a b : Nat} (ha : a ≤ 68) (hb : b < 2 ^ 24) (hb2 : b + b / 16 < 2 ^ 24) (he : b % 16 ≤ 4) : nb3 (256 * b + a) = 256 * nb3 b + nb3 a := by
  have t1 : ∀ a, a < 69 → ∀ e, e < 5 → (a + a / 16 + 16 * e) &&& 15 = (a + a / 16) &&& 252645135 := by decide +kernel
  unfold nb3
  have e1 : 256 * b + a + (256 * b + a) / 16 = 2 ^ 8 * (b + b / 16) + (a + a / 16 + 16 * (b % 16)) := by omega
  have e2 : (252645135 : Nat) = 2 ^ 8 * 986895 + 15 := by decide
  rw [e1]
  have h1 : (2 ^ 8 * (b + b / 16) + (a + a / 16 + 16 * (b % 16))) &&& 252645135 = 2 ^ 8 * ((b + b / 16) &&& 986895) + ((a + a / 16) &&& 252645135) := by
    rw [e2, and_cat 8 _ _ _ _ (by omega) (by decide), t1 a (by omega) (b % 16) (by omega), ← e2]
  have h2 : (b + b / 16) &&& 252645135 = (b + b / 16) &&& 986895 := by
    rw [show (252645135 : Nat) = 2 ^ 24 * 15 + 986895 by decide]
    exact and_low hb2 (by decide)
  rw [h1, h2]
def bc1 (m N : Nat) : Nat := fb_ct (fun i => m.testBit i) N
theorem nb_tab : ∀ a, a < 256 → nb1 a < 256 ∧ nb2 (nb1 a) ≤ 68 ∧ nb2 (nb1 a) % 16 ≤ 4 ∧ nb3 (nb2 (nb1 a)) = bc1 a 8 ∧ bc1 a 8 ≤ 8 := by decide +kernel
theorem bc1_cat {a b : Nat} (ha : a < 256) (N : Nat) : bc1 (256 * b + a) (8 + N) = bc1 a 8 + bc1 b N := by
  unfold bc1
  rw [fb_ct_split]
  congr 1
  · apply fb_ct_cong
    intro k hk
    rw [show 256 * b + a = 2 ^ 8 * b + a by omega, Nat.testBit_two_pow_mul_add b (by omega : a < 2 ^ 8), if_pos hk]
  · apply fb_ct_cong
    intro k hk
    rw [show 256 * b + a = 2 ^ 8 * b + a by omega, Nat.testBit_two_pow_mul_add b (by omega : a < 2 ^ 8), if_neg (by omega), show 8 + k - 8 = k by omega]
theorem nb_all {m : Nat} (hm : m < 2 ^ 20) : ∃ p q r : Nat, p ≤ 8 ∧ q ≤ 8 ∧ r ≤ 8 ∧ nb3 (nb2 (nb1 m)) = 65536 * r + 256 * q + p ∧ bc1 m 20 = p + q + r := by
  obtain ⟨a, b, c, ha, hb, hc, rfl⟩ : ∃ a b c : Nat, a < 256 ∧ b < 256 ∧ c < 16 ∧ m = 256 * (256 * c + b) + a := ⟨m % 256, m / 256 % 256, m / 65536, by omega, by omega, by omega, by omega⟩
  obtain ⟨a1, a2, a3, a4, a5⟩ := nb_tab a ha
  obtain ⟨b1, b2, b3, b4, b5⟩ := nb_tab b hb
  obtain ⟨c1, c2, c3, c4, c5⟩ := nb_tab c (by omega)
  refine ⟨bc1 a 8, bc1 b 8, bc1 c 8, a5, b5, c5, ?_, ?_⟩
  · rw [nb1_cat ha (by omega), nb1_cat hb (by omega), nb2_cat a1 (by omega), nb2_cat b1 (by omega), nb3_cat a2 (by omega) (by omega) (by omega), nb3_cat b2 (by omega) (by omega) (by omega), a4, b4, c4]
    omega
  · rw [show (20 : Nat) = 8 + (8 + 4) from rfl, bc1_cat ha, bc1_cat hb]
    have hc8 : ∀ c, c < 16 → bc1 c 4 = bc1 c 8 := by decide +kernel
    rw [hc8 c hc]; omega
theorem ius_n {n k : Nat} (hk : k < 32) (hn : n < 2 ^ 32) : ius (nI n) (nI k) = nI (n / 2 ^ k) := pk_ushrN hn (nI k) k (s_u k hk)
theorem ibc_n {m : Nat} (hm : m < 2 ^ 20) : ibc (nI m) = nI (bc1 m 20) := by
  obtain ⟨p, q, r, hp, hq, hr, h1, h2⟩ := nb_all hm
  have e1 : ibc1 (nI m) = nI (nb1 m) := by
    unfold ibc1 nb1
    rw [show (1 : Int32) = nI 1 from rfl, ius_n (by omega) (by omega), show (1431655765 : Int32) = nI 1431655765 from rfl, fa_and, pk_sub (Nat.le_trans Nat.and_le_left (Nat.div_le_self _ _))]
  have l1 : nb1 m ≤ m := Nat.sub_le _ _
  have e2 : ibc2 (nI (nb1 m)) = nI (nb2 (nb1 m)) := by
    unfold ibc2 nb2
    rw [show (2 : Int32) = nI 2 from rfl, ius_n (by omega) (by omega), show (858993459 : Int32) = nI 858993459 from rfl, fa_and, fa_and, nI_add]
  have l2 : nb2 (nb1 m) < 2 ^ 31 := by
    have h3 : (nb1 m &&& 858993459) ≤ nb1 m := Nat.and_le_left
    have h4 : (nb1 m / 4 &&& 858993459) ≤ nb1 m := Nat.le_trans Nat.and_le_left (Nat.div_le_self _ _)
    unfold nb2; omega
  have e3 : ibc3 (nI (nb2 (nb1 m))) = nI (nb3 (nb2 (nb1 m))) := by
    unfold ibc3 nb3
    rw [show (4 : Int32) = nI 4 from rfl, ius_n (by omega) (by omega), show (252645135 : Int32) = nI 252645135 from rfl, nI_add, fa_and]
  unfold ibc
  rw [e1, e2, e3, h1, h2]
  unfold ibc4
  rw [show (8 : Int32) = nI 8 from rfl, ius_n (by omega) (by omega), nI_add]
  unfold ibc5
  rw [show (16 : Int32) = nI 16 from rfl, ius_n (by omega) (by omega), nI_add, show (63 : Int32) = nI (2 ^ 6 - 1) from rfl, fa_mask]
  congr 1
  have d1 : (65536 * r + 256 * q + p) / 2 ^ 8 = 256 * r + q := by omega
  rw [d1]
  have d2 : (65536 * r + 256 * q + p + (256 * r + q)) / 2 ^ 16 = r := by omega
  rw [d2]
  omega
theorem io_n (m : Nat) : io (nI m) = nI (bc1 m 20) := by
  have key : ∀ N, N ≤ 32 → fd (h_os (nI m)) 0 N = nI (bc1 m N) := by
    intro N
    induction N with
    | zero => intro _; rfl
    | succ N ih =>
      intro hN
      rw [fd, ih (by omega), h_os, bb_nI (by omega), show bc1 m (N + 1) = bc1 m N + (if m.testBit N = true then 1 else 0) from fb_ct_succ _ _, ← nI_add]
      congr 1
      cases m.testBit N <;> rfl
  exact key 20 (by omega)
/-- both count the same -/
theorem ibc_io {m : Nat} (hm : m < 2 ^ 20) : ibc (nI m) = io (nI m) := by rw [ibc_n hm, io_n]
theorem bc1_le (m N : Nat) : bc1 m N ≤ N := fb_ct_le _ _
theorem and_nI (m : Nat) (y : Int32) : ∃ q, q ≤ m ∧ nI m &&& y = nI q := by
  obtain ⟨z, hz⟩ : ∃ z, y = nI z := ⟨y.toBitVec.toNat, by
    apply Int32.toBitVec_inj.1
    show y.toBitVec = BitVec.ofNat 32 y.toBitVec.toNat
    rw [BitVec.ofNat_toNat, BitVec.setWidth_eq]⟩
  rw [hz, fa_and]
  exact ⟨m &&& z, Nat.and_le_left, rfl⟩
theorem ibc_and {m : Nat} (hm : m < 2 ^ 20) (y : Int32) : ibc (nI m &&& y) = io (nI m &&& y) := by
  obtain ⟨q, hq, e⟩ := and_nI m y
  rw [e]; exact ibc_io (by omega)
/-- folds that agree step by step -/
theorem fd_congr {α : Type} {g h : Nat → α → α} {s : α} : ∀ {n : Nat}, (∀ i a, i < n → g i a = h i a) → fd g s n = fd h s n
  | 0, _ => rfl
  | n + 1, H => by rw [fd, fd, fd_congr (fun i a hi => H i a (by omega)), H n _ (by omega)]
theorem mis_eq (tl : Nat) (se on : Nat → Int32) {s : Nat} (hs : s < 2 ^ 20) : g_mis tl se on (nI s) = h_mis tl se on (nI s) := by
  unfold g_mis h_mis
  apply fd_congr
  intro l a _
  rw [g_ms, h_ms, ibc_and hs]
