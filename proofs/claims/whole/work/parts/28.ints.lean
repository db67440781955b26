/-! ints without overflow -/
theorem ti_add {a b : Int32} (h1 : -2147483648 ≤ a.toInt + b.toInt) (h2 : a.toInt + b.toInt < 2147483648) : (a + b).toInt = a.toInt + b.toInt := by
  rw [Int32.toInt_add]
  exact Int.bmod_eq_of_le (by omega) (by omega)
theorem ti_sub {a b : Int32} (h1 : -2147483648 ≤ a.toInt - b.toInt) (h2 : a.toInt - b.toInt < 2147483648) : (a - b).toInt = a.toInt - b.toInt := by
  rw [Int32.toInt_sub]
  exact Int.bmod_eq_of_le (by omega) (by omega)
theorem ti_mul {a b : Int32} (h1 : -2147483648 ≤ a.toInt * b.toInt) (h2 : a.toInt * b.toInt < 2147483648) : (a * b).toInt = a.toInt * b.toInt := by
  rw [Int32.toInt_mul]
  exact Int.bmod_eq_of_le (by omega) (by omega)
theorem ti_neg {a : Int32} (h1 : -2147483648 < a.toInt) : (-a).toInt = -a.toInt := by
  have := Int32.toInt_lt a
  rw [Int32.toInt_neg]
  exact Int.bmod_eq_of_le (by omega) (by omega)
theorem ti_0 : (0 : Int32).toInt = 0 := rfl
theorem ti_1 : (1 : Int32).toInt = 1 := rfl
theorem fa_xor (a b : Nat) : nI a ^^^ nI b = nI (a ^^^ b) := by
  apply b_ext
  intro i hi
  rw [b_xor, bt_nI a i hi, bt_nI b i hi, bt_nI _ i hi, Nat.testBit_xor]
theorem iabs_n {x : Int32} (h : -2147483648 < x.toInt) : iabs x = nI x.toInt.natAbs := by
  have := Int32.toInt_lt x
  rw [fa_eq, nI_toInt (by omega), iabs]
  split
  · rename_i h2; rw [fa_le, ti_0] at h2; omega
  · rename_i h2; rw [fa_le, ti_0] at h2; rw [ti_neg h]; omega
theorem cp_at (E f : Nat → Int32) (N q : Nat) : fd (fun x f => upd f x (E x)) f N q = if q < N then E q else f q := by
  induction N with
  | zero => rw [if_neg (by omega)]; rfl
  | succ N ih =>
    rw [fd]
    by_cases h : q = N
    · subst h; rw [pk_us, if_pos (by omega)]
    · rw [pk_un h, ih]
      by_cases h2 : q < N
      · rw [if_pos h2, if_pos (by omega)]
      · rw [if_neg h2, if_neg (by omega)]
theorem map_at (E : Int32 → Int32) (f : Nat → Int32) (N q : Nat) : fd (fun x f => upd f x (E (f x))) f N q = if q < N then E (f q) else f q := by
  induction N with
  | zero => rw [if_neg (by omega)]; rfl
  | succ N ih =>
    rw [fd]
    by_cases h : q = N
    · subst h; rw [pk_us, ih, if_neg (by omega), if_pos (by omega)]
    · rw [pk_un h, ih]
      by_cases h2 : q < N
      · rw [if_pos h2, if_pos (by omega)]
      · rw [if_neg h2, if_neg (by omega)]
/-! bounds of sums -/
theorem sm_bd {f : Nat → Int32} {B : Int} (hB : 0 ≤ B) : ∀ {n : Nat}, (∀ i, i < n → -B ≤ (f i).toInt ∧ (f i).toInt ≤ B) → (n : Int) * B < 2147483648 → -((n : Int) * B) ≤ (sm f n).toInt ∧ (sm f n).toInt ≤ (n : Int) * B
  | 0, _, _ => by rw [sm, ti_0]; omega
  | n + 1, h, hn => by
    have e : ((n + 1 : Nat) : Int) * B = (n : Int) * B + B := by rw [Int.natCast_add, Int.add_mul]; simp
    rw [e] at hn ⊢
    obtain ⟨h1, h2⟩ := sm_bd hB (n := n) (fun i hi => h i (by omega)) (by omega)
    obtain ⟨h3, h4⟩ := h n (by omega)
    rw [sm, ti_add (by omega) (by omega)]
    omega
theorem enr_bd {tb : Nat → Int32} {B : Int} (hB : 0 ≤ B) (hB2 : B ≤ 1000000) (hb : ∀ q, q < 64 → -B ≤ (tb q).toInt ∧ (tb q).toInt ≤ B) (p : Nat → Bool) {i : Nat} (hi : i < 8) : -(((i + 1 : Nat) : Int) * B) ≤ (enr tb p i).toInt ∧ (enr tb p i).toInt ≤ ((i + 1 : Nat) : Int) * B := by
  rw [enr]
  refine sm_bd hB (fun j hj => ?_) ?_
  · split
    · exact hb _ (by omega)
    · rw [ti_0]; omega
  · have : ((i + 1 : Nat) : Int) * B ≤ 8 * B := Int.mul_le_mul_of_nonneg_right (by omega) hB
    omega
theorem enb_bd {tb : Nat → Int32} {B : Int} (hB : 0 ≤ B) (hB2 : B ≤ 1000000) (hb : ∀ q, q < 64 → -B ≤ (tb q).toInt ∧ (tb q).toInt ≤ B) (p : Nat → Bool) {n : Nat} (hn : n ≤ 8) : -(36 * B) ≤ (enb n tb p).toInt ∧ (enb n tb p).toInt ≤ 36 * B := by
  have h : ∀ n, n ≤ 8 → -(((n * (n + 1) / 2 : Nat) : Int) * B) ≤ (enb n tb p).toInt ∧ (enb n tb p).toInt ≤ ((n * (n + 1) / 2 : Nat) : Int) * B := by
    intro n
    induction n with
    | zero => intro _; rw [enb, sm, ti_0]; simp
    | succ n ih =>
      intro hn
      obtain ⟨h1, h2⟩ := ih (by omega)
      obtain ⟨h3, h4⟩ := enr_bd hB hB2 hb p (i := n) (by omega)
      have e : (((n + 1) * (n + 1 + 1) / 2 : Nat) : Int) * B = ((n * (n + 1) / 2 : Nat) : Int) * B + ((n + 1 : Nat) : Int) * B := by
        rw [← Int.add_mul, ← Int.natCast_add]
        congr 2
        have : (n + 1) * (n + 1 + 1) = n * (n + 1) + 2 * (n + 1) := by grind
        omega
      have l1 : ((n * (n + 1) / 2 : Nat) : Int) * B ≤ 36 * B := Int.mul_le_mul_of_nonneg_right (by
        have : n * (n + 1) ≤ 7 * 8 := Nat.mul_le_mul (by omega) (by omega)
        omega) hB
      have l2 : ((n + 1 : Nat) : Int) * B ≤ 8 * B := Int.mul_le_mul_of_nonneg_right (by omega) hB
      rw [enb] at h1 h2
      rw [e, enb, sm, ti_add (by omega) (by omega)]
      omega
  obtain ⟨h1, h2⟩ := h n hn
  have l1 : ((n * (n + 1) / 2 : Nat) : Int) * B ≤ 36 * B := Int.mul_le_mul_of_nonneg_right (by
    have : n * (n + 1) ≤ 8 * 9 := Nat.mul_le_mul (by omega) (by omega)
    omega) hB
  omega
/-! cut -/
theorem nm_eq (x s : Int32) : g_nm x s = h_cu x s := by
  have h : g_nm2 (iabs x) s = h_cq x s * s := by
    rw [g_nm2, h_cq, g_nm1, Int32.mul_comm _ 2]
    generalize iabs x / s = q
    split
    · grind
    · grind
  rw [g_nm, h_cu, h]
  split
  · rfl
  · grind
theorem nm_zero : ∀ b, b < 21 → 1 ≤ b → g_nm 0 (nI b) = 0 := by decide +kernel
theorem nm_bd {x : Int32} {b : Nat} (hb : 1 ≤ b) (hb2 : b ≤ 20) {B : Int} (hB2 : B ≤ 1000000) (h1 : -B ≤ x.toInt) (h2 : x.toInt ≤ B) : -(B + 10) ≤ (g_nm x (nI b)).toInt ∧ (g_nm x (nI b)).toInt ≤ B + 10 := by
  have ha := iabs_n (x := x) (by omega)
  generalize hA : x.toInt.natAbs = a at ha
  have hr : g_nm1 (nI a) (nI b) = nI (a % b) := pk_rem (by omega) (by omega) (by omega)
  have hl : a % b < b := Nat.mod_lt _ (by omega)
  have hl2 : a % b ≤ a := Nat.mod_le _ _
  have h3 : 0 ≤ (g_nm2 (nI a) (nI b)).toInt ∧ (g_nm2 (nI a) (nI b)).toInt ≤ B + 10 := by
    rw [g_nm2, hr, show (2 : Int32) = nI 2 from rfl, pk_mul, pk_sub hl2]
    split
    · rw [nI_toInt (by omega)]; omega
    · rename_i h
      rw [nI_leI (by omega) (by omega)] at h
      rw [nI_add, nI_toInt (by omega)]; omega
  rw [g_nm, ha]
  split
  · omega
  · rw [ti_neg (by omega)]; omega
theorem b_cut {k : Nat} (hk : k ≤ 600) {wc wm : ix_W} (R : Rel k wc wm) (x : Int32) : Both k m_X4_cut m_X5_cut [.inl x] wc wm := by
  obtain ⟨n, c, tb, tl, se, on, dd, ch, tn, ro, ot, ow, tr, tu, ld, lc, cc, br, bw, fs, fo, cm, ce, li, ke, be, rfl, rfl, I⟩ := R
  by_cases h : inw x 1 20 = true
  · obtain ⟨b, hb1, hb2, rfl⟩ := inw_rng (a := 1) (b := 20) (by omega) (by omega) h
    obtain ⟨i1, i2, i3, i4, i5, i6, i7, i8⟩ := I
    have hn := i1.2.1
    have et : fd (h_cc (nI b)) tb 64 = fd (g_ct (nI b)) tb 64 := fd_congr (fun i f _ => by rw [h_cc, g_ct, nm_eq])
    have ea : ∀ q, q < 64 → fd (g_ct (nI b)) tb 64 q = g_nm (tb q) (nI b) := fun q hq => by
      rw [show g_ct (nI b) = fun x f => upd f x (g_nm (f x) (nI b)) from rfl, map_at (fun y => g_nm y (nI b)), if_pos hq]
    have es : ∀ i j, i < 8 → j < 8 → fd (g_ct (nI b)) tb 64 (8 * i + j) = fd (g_ct (nI b)) tb 64 (8 * j + i) := fun i j hi hj => by
      rw [ea _ (by omega), ea _ (by omega), i2 i j hi hj]
    have hC := c_cut (c := c) (tb := tb) (tn := tn) (tl := tl) (se := se) (on := on) (dd := dd) (ch := ch) (ro := ro) (ot := ot) (ow := ow) (tr := tr) (tu := tu) (ld := ld) (lc := lc) (cc := cc) (br := br) (bw := bw) hn h (nI_ne0 (by omega) (by omega))
    have hM := m_cut (c := c) (tb := tb) (tl := tl) (se := se) (on := on) (dd := dd) (ch := ch) (fs := fs) (fo := fo) (cm := cm) (ce := ce) (li := li) (ke := ke) (be := be) hn h (nI_ne0 (by omega) (by omega))
    rw [et] at hM
    generalize fd (g_ct (nI b)) tb 64 = T at hC hM ea es
    refine ⟨_, _, _, hC, Cl.eq hM rfl ?_, Rel.mk' ?_⟩
    · congr 2
      apply fd_congr
      intro s a hs
      have e1 : fd (h_cb (h_E n c tb)) be (2 ^ n) s = h_en n c tb (nI s) := by
        rw [show h_cb (h_E n c tb) = fun x f => upd f x (h_E n c tb x) from rfl, cp_at, if_pos hs]
      rw [g_ls, h_cl, e1, fill_eq es hn c ot hs, fill_eq i2 hn c ro hs, imax]
      generalize iabs _ = y
      by_cases q : a < y
      · rw [if_pos q, if_neg (i32_nle.mpr q)]
      · rw [if_neg q, if_pos (i32_nlt.mp q)]
    · refine ⟨i1, es, ?_, ?_, by omega, i6, i7, i8⟩
      · intro i j hi hj hh
        rw [ea _ (by omega), i3 i j hi hj hh, nm_zero b (by omega) hb1]
      · intro q hq
        rw [ea q hq]
        obtain ⟨z1, z2⟩ := i4 q hq
        have := nm_bd hb1 hb2 (B := 60 + 10 * (k : Int)) (by omega) z1 z2
        omega
  · exact ⟨_, _, _, c_cut_no (inw_no h), m_cut_no (inw_no h), Rel.mk' I.up⟩
/-! walk -/
theorem xor_bits (a k j : Nat) : (a ^^^ 2 ^ k).testBit j = (a.testBit j ^^ decide (k = j)) := by
  rw [Nat.testBit_xor, Nat.testBit_two_pow]
theorem sh1_8 {q : Nat} (hq : q < 8) : (1 : Int32) <<< (nI q &&& 31) = nI (2 ^ q) := sh1_n (by omega)
theorem cb_eq {n : Nat} {tb : Nat → Int32} (hsym : ∀ i j, i < 8 → j < 8 → tb (8 * i + j) = tb (8 * j + i)) (hn : n ≤ 8) (c : Int32) {k s : Nat} (hk : k < n) : h_en n c tb (nI (s ^^^ 2 ^ k)) = h_en n c tb (nI s) + g_cb n tb k (nI s) := by
  have hx : ∀ j, j ≠ k → (s ^^^ 2 ^ k).testBit j = s.testBit j := fun j hj => by
    rw [xor_bits, decide_eq_false (fun q => hj q.symm), Bool.xor_false]
  have hkk : (s ^^^ 2 ^ k).testBit k = !s.testBit k := by rw [xor_bits]; simp
  rw [g_cb, bb_nI (by omega)]
  cases h : s.testBit k with
  | true =>
    rw [if_pos rfl]
    have e := en_in hsym hn c hk h (by rw [hkk, h]; rfl) (fun j hj => (hx j hj).symm)
    rw [e, gain_self n tb hn (fun j hj => (hx j hj).symm)]
    grind
  | false =>
    rw [if_neg (by decide)]
    exact en_in hsym hn c hk (by rw [hkk, h]; rfl) h hx
theorem w_min (l a : Int32) : imin l a = h_wm a l := by
  rw [imin, h_wm]
  by_cases y : a < l
  · rw [if_pos y, if_neg (i32_nle.mpr y)]
  · rw [if_neg y, if_pos (i32_nlt.mp y)]
theorem w_mle (l a : Int32) : h_wm a l ≤ a := by
  rw [h_wm]
  split
  · assumption
  · exact Int32.le_refl _
theorem w_ll {n : Nat} (hn1 : 1 ≤ n) (z : Int32) : w_l n z < n := by
  unfold w_l
  exact Nat.mod_lt _ (by omega)
theorem walk_st {n : Nat} {tb : Nat → Int32} (hsym : ∀ i j, i < 8 → j < 8 → tb (8 * i + j) = tb (8 * j + i)) (hn1 : 1 ≤ n) (hn : n ≤ 8) (c z l : Int32) (m t1 : Nat) {h1 : Nat} (hh : h1 < 2 ^ n) (hl : l ≤ h_en n c tb (nI h1)) : g_w n tb m (z, t1, nI h1, h_en n c tb (nI h1), l) = h_wk n c tb m (z, t1, nI h1, h_en n c tb (nI h1), l) ∧ ∃ (z2 : Int32) (t2 h2 : Nat) (l2 : Int32), h_wk n c tb m (z, t1, nI h1, h_en n c tb (nI h1), l) = (z2, t2, nI h2, h_en n c tb (nI h2), l2) ∧ h2 < 2 ^ n ∧ l2 ≤ h_en n c tb (nI h2) := by
  have hL := w_ll hn1 z
  have ex : h_wo n z (nI h1) = nI (h1 ^^^ 2 ^ w_l n z) := by rw [h_wo, sh1_8 (by omega), fa_xor]
  have ec := cb_eq hsym hn c (s := h1) hL
  have hlt : h1 ^^^ 2 ^ w_l n z < 2 ^ n := Nat.xor_lt_two_pow hh (Nat.pow_lt_pow_right (by omega) hL)
  rw [g_w, h_wk]
  show _ ∧ _
  dsimp only
  rw [show nI h1 ^^^ ((1 : Int32) <<< (nI (w_l n z) &&& 31)) = h_wo n z (nI h1) from rfl, ex]
  generalize w_l n z = L at hL hlt ec ex ⊢
  generalize h1 ^^^ 2 ^ L = h2 at hlt ec ex ⊢
  have ed : h_en n c tb (nI h2) - h_en n c tb (nI h1) = g_cb n tb L (nI h1) := by
    rw [ec]
    generalize h_en n c tb (nI h1) = u
    generalize g_cb n tb L (nI h1) = v
    grind
  rw [ed]
  by_cases q : g_cb n tb L (nI h1) ≤ w_t z t1
  · rw [if_pos q, if_pos q, ← ec, w_min]
    exact ⟨rfl, _, _, _, _, rfl, hlt, w_mle _ _⟩
  · rw [if_neg q, if_neg q]
    have em : h_wm (h_en n c tb (nI h1)) l = l := by rw [h_wm, if_pos hl]
    rw [em]
    exact ⟨rfl, _, _, _, _, rfl, hh, hl⟩
theorem walk_eq {n : Nat} {tb : Nat → Int32} (hsym : ∀ i j, i < 8 → j < 8 → tb (8 * i + j) = tb (8 * j + i)) (hn1 : 1 ≤ n) (hn : n ≤ 8) (c d : Int32) (t : Nat) {s : Nat} (hs : s < 2 ^ n) (m : Nat) : fd (g_w n tb) (d, t, nI s, h_en n c tb (nI s), h_en n c tb (nI s)) m = fd (h_wk n c tb) (d, t, nI s, h_en n c tb (nI s), h_en n c tb (nI s)) m ∧ ∃ (z : Int32) (t1 h1 : Nat) (l : Int32), fd (h_wk n c tb) (d, t, nI s, h_en n c tb (nI s), h_en n c tb (nI s)) m = (z, t1, nI h1, h_en n c tb (nI h1), l) ∧ h1 < 2 ^ n ∧ l ≤ h_en n c tb (nI h1) := by
  induction m with
  | zero =>
    rw [fd, fd]
    exact ⟨rfl, d, t, s, _, rfl, hs, Int32.le_refl _⟩
  | succ m ih =>
    obtain ⟨e, z, t1, h1, l, e2, hh, hl⟩ := ih
    rw [fd, fd, e, e2]
    exact walk_st hsym hn1 hn c z l m t1 hh hl
theorem b_walk {k : Nat} {wc wm : ix_W} (R : Rel k wc wm) (s d h m x : Int32) : Both k m_X4_walk m_X5_walk [.inl s, .inl d, .inl h, .inl m, .inl x] wc wm := by
  obtain ⟨n, c, tb, tl, se, on, dd, ch, tn, ro, ot, ow, tr, tu, ld, lc, cc, br, bw, fs, fo, cm, ce, li, ke, be, rfl, rfl, I⟩ := R
  obtain ⟨hn1, hn, ht⟩ := I.1
  have hp := (pw_le hn).1
  cases hk : g_wok n s h m x with
  | false => exact ⟨_, _, _, c_walk_no hn hk, m_walk_no hn hk, Rel.mk' I.up⟩
  | true =>
    have hk2 := hk
    rw [g_wok, Bool.and_eq_true, Bool.and_eq_true, Bool.and_eq_true] at hk2
    obtain ⟨k1, k2, k3, k4⟩ := hk2
    obtain ⟨a, ha, rfl⟩ := inw_of (by omega) k1
    obtain ⟨t, -, ht2, rfl⟩ := inw_rng (a := 0) (b := 100) (by omega) (by omega) k2
    obtain ⟨mm, -, hm2, rfl⟩ := inw_rng (a := 1) (b := 200) (by omega) (by omega) k3
    refine ⟨_, _, _, c_walk hn hn1 ht2 hm2 hk, Cl.eq (m_walk hn hn1 ht2 hm2 hk) rfl ?_, Rel.mk' I.up⟩
    rw [en_eq hn, (walk_eq I.2.1 hn1 hn c d t ha mm).1]
