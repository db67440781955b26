/-! Gray's order, and cells listed -/
def gray (t : Nat) : Nat := t ^^^ (t / 2)
theorem gray_bit (t j : Nat) : (gray t).testBit j = (t.testBit j ^^ t.testBit (j + 1)) := by
  rw [gray, Nat.testBit_xor, Nat.testBit_succ]
theorem gray_lt {t N : Nat} (h : t < 2 ^ N) : gray t < 2 ^ N := Nat.xor_lt_two_pow h (by omega)
theorem gray_step {t : Nat} (ht : t + 1 < 2 ^ 31) : gray (t + 1) = gray t ^^^ 2 ^ lowb (t + 1) := by
  obtain ⟨hk, q, hq⟩ := low_dec (by omega : 0 < t + 1) ht
  generalize lowb (t + 1) = k at hk hq
  have hp : 0 < 2 ^ k := Nat.two_pow_pos k
  have e2 : t = 2 ^ k * (2 * q) + (2 ^ k - 1) := by
    have : t + 1 = 2 ^ k * (2 * q) + 2 ^ k := by rw [hq, Nat.mul_add]; omega
    omega
  have b1 : ∀ j, (t + 1).testBit j = if j < k then false else (2 * q + 1).testBit (j - k) := fun j => by
    rw [show t + 1 = 2 ^ k * (2 * q + 1) + 0 by omega, Nat.testBit_two_pow_mul_add (2 * q + 1) hp, Nat.zero_testBit]
  have b2 : ∀ j, t.testBit j = if j < k then true else (2 * q).testBit (j - k) := fun j => by
    conv => lhs; rw [e2]
    rw [Nat.testBit_two_pow_mul_add (2 * q) (by omega : 2 ^ k - 1 < 2 ^ k)]
    by_cases h : j < k
    · rw [if_pos h, if_pos h]; simp [h]
    · rw [if_neg h, if_neg h]
  have b3 : ∀ i, (2 * q + 1).testBit (i + 1) = q.testBit i := fun i => by rw [Nat.testBit_succ, show (2 * q + 1) / 2 = q by omega]
  have b4 : ∀ i, (2 * q).testBit (i + 1) = q.testBit i := fun i => by rw [Nat.testBit_succ, show (2 * q) / 2 = q by omega]
  have b5 : (2 * q + 1).testBit 0 = true := by simp
  have b6 : (2 * q).testBit 0 = false := by simp
  apply Nat.eq_of_testBit_eq
  intro j
  rw [xor_bits, gray_bit, gray_bit, b1, b1, b2, b2]
  rcases Nat.lt_trichotomy j k with h | h | h
  · rw [if_pos h, if_pos h, decide_eq_false (by omega)]
    by_cases h2 : j + 1 < k
    · rw [if_pos h2, if_pos h2]; rfl
    · rw [if_neg h2, if_neg h2, show j + 1 - k = 0 by omega, b5, b6]; rfl
  · subst h
    rw [if_neg (by omega), if_neg (by omega), if_neg (by omega), if_neg (by omega), show j - j = 0 by omega, show j + 1 - j = 0 + 1 by omega, b5, b6, b3, b4, decide_eq_true rfl]
    cases q.testBit 0 <;> rfl
  · rw [if_neg (by omega), if_neg (by omega), if_neg (by omega), if_neg (by omega), show j - k = (j - k - 1) + 1 by omega, show j + 1 - k = (j - k) + 1 by omega, b3, b4, b3, b4, decide_eq_false (by omega), Bool.xor_false]
theorem gray_onto : ∀ {N s : Nat}, s < 2 ^ N → ∃ t, t < 2 ^ N ∧ gray t = s
  | 0, s, h => ⟨0, by omega, by rw [Nat.pow_zero] at h; have : s = 0 := by omega
                                subst this; rfl⟩
  | N + 1, s, h => by
    rw [Nat.pow_succ] at h
    obtain ⟨t, ht, e⟩ := gray_onto (N := N) (s := s / 2) (by omega)
    have hx : ∃ a, a < 2 ∧ (s % 2 = (a + t % 2) % 2) := ⟨(s % 2 + t % 2) % 2, by omega, by omega⟩
    obtain ⟨a, ha, hs⟩ := hx
    refine ⟨2 * t + a, by rw [Nat.pow_succ]; omega, ?_⟩
    apply Nat.eq_of_testBit_eq
    intro j
    rw [gray_bit, Nat.testBit_succ, show (2 * t + a) / 2 = t by omega]
    cases j with
    | zero =>
      rw [Nat.testBit_zero, Nat.testBit_zero, Nat.testBit_zero]
      rcases Nat.mod_two_eq_zero_or_one s with z1 | z1 <;> rcases Nat.mod_two_eq_zero_or_one t with z2 | z2 <;> rcases (by omega : a = 0 ∨ a = 1) with z3 | z3 <;> subst z3 <;> rw [z1, z2] at hs <;> first | (exfalso; omega) | (rw [z1, z2]; simp <;> omega)
    | succ j =>
      rw [Nat.testBit_succ, show (2 * t + a) / 2 = t by omega, ← gray_bit, e, Nat.testBit_succ]
theorem mx_in {f : Nat → Nat} : ∀ {n i : Nat}, i < n → f i ≤ mx f n
  | n + 1, i, h => by
    rw [mx]
    by_cases e : i = n
    · subst e; exact Nat.le_max_right _ _
    · exact Nat.le_trans (mx_in (n := n) (by omega)) (Nat.le_max_left _ _)
theorem mx_gray (f : Nat → Nat) (N : Nat) : mx (fun t => f (gray t)) (2 ^ N) = mx f (2 ^ N) := by
  apply Nat.le_antisymm
  · exact mx_le (fun i hi => mx_in (gray_lt hi))
  · refine mx_le (fun i hi => ?_)
    obtain ⟨t, ht, e⟩ := gray_onto hi
    rw [← e]
    exact mx_in (f := fun t => f (gray t)) ht
/-! cells listed in order -/
theorem bc1_s (A N : Nat) : bc1 A (N + 1) = bc1 A N + (if A.testBit N = true then 1 else 0) := fb_ct_succ _ _
theorem lc_h (A : Nat) (f : Nat → Int32) : ∀ {j : Nat}, j ≤ 20 → (fd (h_lc (nI A)) (f, 0) j).2 = bc1 A j ∧ ∀ k, k < bc1 A j → ∃ i, i < j ∧ A.testBit i = true ∧ bc1 A i = k ∧ (fd (h_lc (nI A)) (f, 0) j).1 k = nI i
  | 0, _ => ⟨rfl, fun k hk => absurd hk (Nat.not_lt_zero k)⟩
  | j + 1, hj => by
    obtain ⟨h1, h2⟩ := lc_h A f (j := j) (by omega)
    rw [fd, h_lc, bb_nI (by omega), bc1_s]
    cases e : A.testBit j with
    | true =>
      rw [if_pos rfl, if_pos rfl]
      refine ⟨by dsimp only; rw [h1], fun k hk => ?_⟩
      dsimp only
      rw [h1]
      by_cases z : k = bc1 A j
      · subst z
        exact ⟨j, by omega, e, rfl, pk_us⟩
      · obtain ⟨i, i1, i2, i3, i4⟩ := h2 k (by omega)
        exact ⟨i, by omega, i2, i3, by rw [pk_un z]; exact i4⟩
    | false =>
      rw [if_neg (by decide), if_neg (by decide)]
      refine ⟨h1, fun k hk => ?_⟩
      obtain ⟨i, i1, i2, i3, i4⟩ := h2 k hk
      exact ⟨i, by omega, i2, i3, i4⟩
theorem lc_g (A : Nat) (f : Nat → Int32) (hA : bc1 A 20 ≤ 14) : ∀ {j : Nat}, j ≤ 20 → (fd (g_lc (nI A)) (f, 0) j).2 = bc1 A j ∧ ∀ k, k < bc1 A j → ∃ i, i < j ∧ A.testBit i = true ∧ bc1 A i = k ∧ (fd (g_lc (nI A)) (f, 0) j).1 k = nI i
  | 0, _ => ⟨rfl, fun k hk => absurd hk (Nat.not_lt_zero k)⟩
  | j + 1, hj => by
    obtain ⟨h1, h2⟩ := lc_g A f hA (j := j) (by omega)
    have hmono : bc1 A (j + 1) ≤ bc1 A 20 := fb_ct_mono _ hj
    rw [fd, g_lc, bb_nI (by omega), bc1_s]
    rw [bc1_s] at hmono
    cases e : A.testBit j with
    | true =>
      rw [e, if_pos rfl] at hmono
      rw [if_pos ⟨rfl, by rw [h1]; omega⟩, if_pos rfl]
      refine ⟨by dsimp only; rw [h1], fun k hk => ?_⟩
      dsimp only
      rw [h1]
      by_cases z : k = bc1 A j
      · subst z
        exact ⟨j, by omega, e, rfl, pk_us⟩
      · obtain ⟨i, i1, i2, i3, i4⟩ := h2 k (by omega)
        exact ⟨i, by omega, i2, i3, by rw [pk_un z]; exact i4⟩
    | false =>
      rw [if_neg (fun y => absurd y.1 (by decide)), if_neg (by decide)]
      refine ⟨h1, fun k hk => ?_⟩
      obtain ⟨i, i1, i2, i3, i4⟩ := h2 k hk
      exact ⟨i, by omega, i2, i3, i4⟩
/-- the place of the k-th cell -/
def kth (A k : Nat) : Nat := fa_first (fun i => A.testBit i && decide (bc1 A i = k)) 20
theorem kth_of {A i k : Nat} (hi : i < 20) (h1 : A.testBit i = true) (h2 : bc1 A i = k) : kth A k = i := by
  have hp : (fun i => A.testBit i && decide (bc1 A i = k)) i = true := by
    show (A.testBit i && decide (bc1 A i = k)) = true
    rw [h1, decide_eq_true h2]; rfl
  have hl : kth A k ≤ i := by
    rcases Nat.lt_or_ge i (kth A k) with z | z
    · have := fa_first_no _ 20 i z
      exact absurd (hp.symm.trans this) (by decide)
    · exact z
  have hy := fa_first_yes (fun i => A.testBit i && decide (bc1 A i = k)) 20 (Nat.lt_of_le_of_lt hl hi)
  have hy2 : (A.testBit (kth A k) && decide (bc1 A (kth A k) = k)) = true := hy
  rw [Bool.and_eq_true] at hy2
  exact fb_ct_kth_one (p := fun i => A.testBit i) hy2.1 h1 (by have := of_decide_eq_true hy2.2; exact this.trans h2.symm)
theorem kth_all {A k : Nat} (hk : k < bc1 A 20) : kth A k < 20 ∧ A.testBit (kth A k) = true ∧ bc1 A (kth A k) = k := by
  obtain ⟨i, h1, h2, h3⟩ := fb_ct_kth (p := fun i => A.testBit i) hk
  have := kth_of h1 h2 h3
  rw [this]
  exact ⟨h1, h2, h3⟩
/-- a state of the cells, spread over the grid -/
def xs (A : Nat) (s k a : Nat) : Nat := if s.testBit k = true then a ||| 2 ^ kth A k else a
def X (A s : Nat) : Nat := fd (xs A s) 0 (bc1 A 20)
theorem X_bit (A s : Nat) : ∀ {N : Nat}, N ≤ bc1 A 20 → ∀ j, (fd (xs A s) 0 N).testBit j = true ↔ ∃ k, k < N ∧ s.testBit k = true ∧ kth A k = j
  | 0, _, j => ⟨fun h => by rw [fd, Nat.zero_testBit] at h; exact absurd h (by decide), fun ⟨_, h, _⟩ => absurd h (by omega)⟩
  | N + 1, hN, j => by
    have ih := X_bit A s (N := N) (by omega) j
    rw [fd, xs]
    cases e : s.testBit N with
    | true =>
      rw [if_pos rfl, Nat.testBit_or, Bool.or_eq_true, ih, Nat.testBit_two_pow, decide_eq_true_iff]
      constructor
      · rintro (⟨k, h1, h2, h3⟩ | h)
        · exact ⟨k, by omega, h2, h3⟩
        · exact ⟨N, by omega, e, h⟩
      · rintro ⟨k, h1, h2, h3⟩
        by_cases z : k = N
        · subst z; exact Or.inr h3
        · exact Or.inl ⟨k, by omega, h2, h3⟩
    | false =>
      rw [if_neg (by decide), ih]
      constructor
      · rintro ⟨k, h1, h2, h3⟩; exact ⟨k, by omega, h2, h3⟩
      · rintro ⟨k, h1, h2, h3⟩
        refine ⟨k, ?_, h2, h3⟩
        rcases Nat.lt_or_ge k N with z | z
        · exact z
        · have : k = N := by omega
          subst this; rw [e] at h2; exact absurd h2 (by decide)
theorem X_b {A : Nat} (hA : A < 2 ^ 20) (s j : Nat) : (X A s).testBit j = (A.testBit j && s.testBit (bc1 A j)) := by
  rw [Bool.eq_iff_iff, Bool.and_eq_true, X, X_bit A s (Nat.le_refl _)]
  constructor
  · rintro ⟨k, h1, h2, h3⟩
    obtain ⟨k1, k2, k3⟩ := kth_all h1
    rw [← h3, k3]
    exact ⟨k2, h2⟩
  · rintro ⟨h1, h2⟩
    have hj := lt_bit hA h1
    refine ⟨bc1 A j, ?_, h2, kth_of hj h1 rfl⟩
    have : bc1 A (j + 1) ≤ bc1 A 20 := fb_ct_mono _ hj
    rw [bc1_s, h1, if_pos rfl] at this
    omega
theorem X_lt {A : Nat} (hA : A < 2 ^ 20) (s : Nat) : X A s < 2 ^ 20 := by
  apply Nat.lt_pow_two_of_testBit
  intro j hj
  rw [X_b hA]
  cases e : A.testBit j with
  | false => rfl
  | true => have := lt_bit hA e; omega
theorem X_flip {A : Nat} (hA : A < 2 ^ 20) (s : Nat) {k : Nat} (hk : k < bc1 A 20) : X A (s ^^^ 2 ^ k) = X A s ^^^ 2 ^ kth A k := by
  apply Nat.eq_of_testBit_eq
  intro j
  obtain ⟨k1, k2, k3⟩ := kth_all hk
  rw [X_b hA, xor_bits, xor_bits, X_b hA]
  cases e : A.testBit j with
  | false =>
    rw [Bool.false_and, Bool.false_and, decide_eq_false (fun z => by rw [← z, k2] at e; exact absurd e (by decide))]
    rfl
  | true =>
    rw [Bool.true_and, Bool.true_and, decide_eq_decide.mpr (show k = bc1 A j ↔ kth A k = j from ⟨fun z => kth_of (lt_bit hA e) e z.symm, fun z => by rw [← z, k3]⟩)]
theorem sx_n (A : Nat) {ce : Nat → Int32} (hc : ∀ k, k < bc1 A 20 → ce k = nI (kth A k)) (s : Nat) : h_sx ce (bc1 A 20) s = nI (X A s) := by
  rw [h_sx, X]
  have : ∀ N, N ≤ bc1 A 20 → fd (h_sp ce (nI s)) 0 N = nI (fd (xs A s) 0 N) := by
    intro N
    induction N with
    | zero => intro _; rfl
    | succ N ih =>
      intro hN
      have hb := bc1_le A 20
      rw [fd, fd, ih (by omega), h_sp, xs, hc N (by omega), bb_nI (by omega)]
      obtain ⟨k1, -, -⟩ := kth_all (A := A) (k := N) (by omega)
      cases s.testBit N with
      | true => rw [if_pos rfl, bz_t rfl, sh1_n k1, fa_or]
      | false => rw [if_neg (by decide), bz_f rfl, shl_0 (by omega), show (0 : Int32) = nI 0 from rfl, fa_or, Nat.or_zero]
  exact this _ (Nat.le_refl _)
