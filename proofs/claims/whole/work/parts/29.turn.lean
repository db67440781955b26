/-! turn -/
theorem upd_ij (f : Nat → Int32) (x : Int32) {a b i j : Nat} (hb : b < 8) (hj : j < 8) : upd f (8 * a + b) x (8 * i + j) = if i = a ∧ j = b then x else f (8 * i + j) := by
  by_cases h : i = a ∧ j = b
  · rw [if_pos h, h.1, h.2, pk_us]
  · rw [if_neg h, pk_un (by omega)]
def tq (m N : Nat) (T : Nat → Int32) (a b : Nat) : Int32 := if a = b then (if a < N ∧ a ≠ m then T (8 * a + b) + T (8 * m + a) else T (8 * a + b)) else if a = m ∧ b < N then -T (8 * m + b) else if b = m ∧ a < N then -T (8 * m + a) else T (8 * a + b)
theorem t1_at (T0 : Nat → Int32) {m : Nat} (hm : m < 8) : ∀ {N : Nat}, N ≤ 8 → ∀ a b, b < 8 → fd (h_t1 m) T0 N (8 * a + b) = tq m N T0 a b
  | 0, _, a, b, hb => by
    rw [fd, tq]
    repeat' split
    all_goals first | rfl | (exfalso; omega)
  | N + 1, hN, a, b, hb => by
    have ih := t1_at T0 hm (N := N) (by omega)
    rw [fd, h_t1]
    by_cases hNm : N = m
    · rw [if_pos hNm, ih a b hb, tq, tq]
      repeat' split
      all_goals first | rfl | (exfalso; omega)
    · rw [if_neg hNm, upd_ij _ _ hm hb, upd_ij _ _ (by omega) hb, h_t1a, upd_ij _ _ (by omega) hb, upd_ij _ _ (by omega) (by omega), ih a b hb, ih N N (by omega), ih m N (by omega)]
      have e1 : tq m N T0 N N = T0 (8 * N + N) := by rw [tq, if_pos rfl, if_neg (by omega)]
      have e2 : tq m N T0 m N = T0 (8 * m + N) := by rw [tq, if_neg (by omega), if_neg (by omega), if_neg (by omega)]
      rw [e1, e2, if_neg (show ¬ (m = N ∧ N = N) by omega)]
      unfold tq
      by_cases c1 : a = N ∧ b = m
      · rw [if_pos c1, if_neg (by omega), if_neg (by omega), if_pos (by omega), c1.1]
      · rw [if_neg c1]
        by_cases c2 : a = m ∧ b = N
        · rw [if_pos c2, if_neg (by omega), if_pos (by omega), c2.2]
        · rw [if_neg c2]
          by_cases c3 : a = N ∧ b = N
          · rw [if_pos c3, if_pos (by omega), if_pos (by omega), c3.1, c3.2]
          · rw [if_neg c3]
            repeat' split
            all_goals first | rfl | (exfalso; omega)
theorem gain_tb (n : Nat) (tb : Nat → Int32) (hn : n ≤ 8) (i s : Nat) : g_gain n tb i (nI s) = tb (8 * i + i) + sm (fun j => if j ≠ i ∧ s.testBit j = true then tb (8 * i + j) else 0) n := by
  rw [gain_sm]
  congr 1
  apply sm_congr
  intro j hj
  rw [bb_nI (by omega)]
theorem gain_up {n : Nat} {tb : Nat → Int32} (hn : n ≤ 8) {i m s r : Nat} (hm : m < n) (him : m ≠ i) (hs : s.testBit m = true) (hr : r.testBit m = false) (hsr : ∀ j, j ≠ m → s.testBit j = r.testBit j) : g_gain n tb i (nI s) = g_gain n tb i (nI r) + tb (8 * i + m) := by
  rw [gain_tb n tb hn, gain_tb n tb hn, sm_at (f := fun j => if j ≠ i ∧ r.testBit j = true then tb (8 * i + j) else 0) (g := fun j => if j ≠ i ∧ s.testBit j = true then tb (8 * i + j) else 0) (i := m) (x := tb (8 * i + m)) ?_ ?_ hm]
  · grind
  · intro j hj
    simp only [hsr j hj]
  · simp only [hs, hr]
    rw [if_pos ⟨him, trivial⟩, if_neg (by simp)]
    grind
def tvn (n : Nat) (tb : Nat → Int32) (s : Nat) (i j : Nat) : Int32 := if i < n ∧ j < n then g_tv n tb (nI s) i j else tb (8 * i + j)
theorem tv_step {n : Nat} {tb : Nat → Int32} (hsym : ∀ i j, i < 8 → j < 8 → tb (8 * i + j) = tb (8 * j + i)) (hn : n ≤ 8) {m s r : Nat} (hm : m < n) (hs : s.testBit m = true) (hr : r.testBit m = false) (hsr : ∀ j, j ≠ m → s.testBit j = r.testBit j) {T : Nat → Int32} (hT : ∀ i j, j < 8 → T (8 * i + j) = tvn n tb r i j) (a b : Nat) (hb : b < 8) : h_t0 n m T (8 * a + b) = tvn n tb s a b := by
  have hself : g_gain n tb m (nI s) = g_gain n tb m (nI r) := gain_self n tb hn hsr
  have e0 : ∀ i j, j < 8 → upd T (8 * m + m) (-(T (8 * m + m))) (8 * i + j) = if i = m ∧ j = m then g_gain n tb m (nI s) * (-1) else tvn n tb r i j := fun i j hj => by
    rw [upd_ij _ _ (by omega) hj, hT m m (by omega), hT i j hj]
    by_cases h : i = m ∧ j = m
    · rw [if_pos h, if_pos h, tvn, if_pos ⟨hm, hm⟩, g_tv, if_pos rfl, g_cb, bb_nI (by omega), hr, if_neg (by decide), hself]
      grind
    · rw [if_neg h, if_neg h]
  rw [h_t0, t1_at _ (by omega) hn a b hb, tq, e0 a b hb]
  rcases Nat.lt_or_ge a 8 with ha | ha
  · rw [e0 m a ha, e0 m b hb]
    by_cases hab : a = b
    · subst hab
      rw [if_pos rfl]
      by_cases ham : a = m
      · subst ham
        rw [if_neg (by omega), if_pos ⟨rfl, rfl⟩, tvn, if_pos ⟨hm, hm⟩, g_tv, if_pos rfl, g_cb, bb_nI (by omega), hs, if_pos rfl]
        grind
      · rw [if_neg (show ¬ (a = m ∧ a = m) by omega), if_neg (show ¬ (m = m ∧ a = m) by omega)]
        by_cases han : a < n
        · rw [if_pos ⟨han, ham⟩, tvn, tvn, tvn, if_pos ⟨han, han⟩, if_pos ⟨hm, han⟩, if_pos ⟨han, han⟩, g_tv, if_pos rfl, g_tv, if_neg (fun q => ham q.symm), g_tv, if_pos rfl, g_cb, g_cb, gain_up hn hm (fun q => ham q.symm) hs hr hsr, bb_nI (by omega), bb_nI (by omega), bb_nI (by omega), hr, hsr a ham, hsym m a (by omega) (by omega)]
          cases r.testBit a
          · rw [if_neg (by decide), if_pos rfl, if_neg (by decide)]
          · rw [if_pos rfl, if_neg (by decide), if_pos rfl]
            grind
        · rw [if_neg (by omega), tvn, tvn, if_neg (by omega), if_neg (by omega)]
    · rw [if_neg hab, if_neg (show ¬ (a = m ∧ b = m) by omega)]
      by_cases c1 : a = m ∧ b < n
      · obtain ⟨c1a, c1b⟩ := c1
        subst c1a
        rw [if_pos ⟨rfl, c1b⟩, if_neg (show ¬ (a = a ∧ b = a) by omega), tvn, tvn, if_pos ⟨hm, c1b⟩, if_pos ⟨hm, c1b⟩, g_tv, g_tv, if_neg hab, if_neg hab, bb_nI (by omega), bb_nI (by omega), bb_nI (by omega), bb_nI (by omega), hr, hs, hsr b (by omega)]
        cases r.testBit b
        · rw [if_pos rfl, if_neg (by decide)]
        · rw [if_neg (by decide), if_pos rfl]
          grind
      · rw [if_neg c1]
        by_cases c2 : b = m ∧ a < n
        · obtain ⟨c2a, c2b⟩ := c2
          subst c2a
          rw [if_pos ⟨rfl, c2b⟩, if_neg (show ¬ (b = b ∧ a = b) by omega), tvn, tvn, if_pos ⟨hm, c2b⟩, if_pos ⟨c2b, hm⟩, g_tv, g_tv, if_neg (show ¬ b = a by omega), if_neg hab, bb_nI (by omega), bb_nI (by omega), bb_nI (by omega), bb_nI (by omega), hr, hs, hsr a (by omega), hsym b a (by omega) (by omega)]
          cases r.testBit a
          · rw [if_pos rfl, if_neg (by decide)]
          · rw [if_neg (by decide), if_pos rfl]
            grind
        · rw [if_neg c2, tvn, tvn]
          by_cases c3 : a < n ∧ b < n
          · rw [if_pos c3, if_pos c3, g_tv, g_tv, if_neg hab, if_neg hab, bb_nI (by omega), bb_nI (by omega), bb_nI (by omega), bb_nI (by omega), hsr a (by omega), hsr b (by omega)]
          · rw [if_neg c3, if_neg c3]
  · rw [if_neg (by omega), if_neg (by omega), if_neg (by omega), if_neg (by omega), tvn, tvn, if_neg (by omega), if_neg (by omega)]
theorem tt_eq {n : Nat} {tb : Nat → Int32} (hsym : ∀ i j, i < 8 → j < 8 → tb (8 * i + j) = tb (8 * j + i)) (hn : n ≤ 8) (c : Int32) (s : Nat) : ∀ {m : Nat}, m ≤ n → (fd (h_tt n (nI s)) (c, tb) m).1 = h_en n c tb (nI (s % 2 ^ m)) ∧ ∀ i j, j < 8 → (fd (h_tt n (nI s)) (c, tb) m).2 (8 * i + j) = tvn n tb (s % 2 ^ m) i j
  | 0, _ => by
    rw [fd, Nat.pow_zero, Nat.mod_one]
    have z : ∀ i, i < 8 → bb (nI 0) i = false := by decide +kernel
    refine ⟨?_, fun i j hj => ?_⟩
    · rw [hen_sm, sm_zero, Int32.add_zero]
      intro i hi
      apply sm_zero
      intro j hj
      rw [h_ev, z i (by omega), if_neg (by simp)]
    · rw [tvn]
      by_cases h : i < n ∧ j < n
      · rw [if_pos h, g_tv]
        by_cases e : i = j
        · subst e
          rw [if_pos rfl, g_cb, z i (by omega), if_neg (by decide), gain_sm, sm_zero, Int32.add_zero]
          intro k hk
          rw [z k (by omega), if_neg (by simp)]
        · rw [if_neg e, z i (by omega), z j (by omega), if_pos rfl]
      · rw [if_neg h]
  | m + 1, hm => by
    obtain ⟨h1, h2⟩ := tt_eq hsym hn c s (m := m) (by omega)
    have hb : ∀ j, (s % 2 ^ (m + 1)).testBit j = (decide (j < m + 1) && s.testBit j) := fun j => Nat.testBit_mod_two_pow ..
    have hc : ∀ j, (s % 2 ^ m).testBit j = (decide (j < m) && s.testBit j) := fun j => Nat.testBit_mod_two_pow ..
    have hr : (s % 2 ^ m).testBit m = false := by rw [hc, decide_eq_false (by omega)]; rfl
    have hsr : ∀ j, j ≠ m → (s % 2 ^ (m + 1)).testBit j = (s % 2 ^ m).testBit j := fun j hj => by
      rw [hb, hc]
      congr 1
      exact decide_eq_decide.mpr (by omega)
    rw [fd, h_tt, bb_nI (by omega)]
    cases e : s.testBit m with
    | true =>
      have hs : (s % 2 ^ (m + 1)).testBit m = true := by rw [hb, e, decide_eq_true (by omega)]; rfl
      rw [if_pos rfl]
      refine ⟨?_, fun i j hj => tv_step hsym hn (by omega) hs hr hsr h2 i j hj⟩
      dsimp only
      rw [h1, h2 m m (by omega), tvn, if_pos ⟨by omega, by omega⟩, g_tv, if_pos rfl, g_cb, bb_nI (by omega), hr, if_neg (by decide)]
      exact (en_in hsym hn c (by omega) hs hr hsr).symm
    | false =>
      rw [if_neg (by decide)]
      have : s % 2 ^ (m + 1) = s % 2 ^ m := Nat.eq_of_testBit_eq (fun j => by
        by_cases q : j = m
        · rw [q, hr, hb, e, Bool.and_false]
        · exact hsr j q)
      rw [this]
      exact ⟨h1, h2⟩
theorem fill2 (E : Nat → Nat → Int32) {n : Nat} (hn : n ≤ 8) (f : Nat → Int32) (N : Nat) (a b : Nat) (hb : b < 8) : fd (fun i f => fd (fun j f => upd f (8 * i + j) (E i j)) f n) f N (8 * a + b) = if a < N ∧ b < n then E a b else f (8 * a + b) := by
  have row : ∀ (i : Nat) (f : Nat → Int32) (M : Nat), M ≤ 8 → fd (fun j f => upd f (8 * i + j) (E i j)) f M (8 * a + b) = if a = i ∧ b < M then E i b else f (8 * a + b) := by
    intro i f M
    induction M with
    | zero => intro _; rw [fd, if_neg (by omega)]
    | succ M ih =>
      intro hM
      rw [fd, upd_ij _ _ (by omega) hb, ih (by omega)]
      by_cases h : a = i ∧ b = M
      · rw [if_pos h, if_pos (by omega), h.2]
      · rw [if_neg h]
        by_cases h2 : a = i ∧ b < M
        · rw [if_pos h2, if_pos (by omega)]
        · rw [if_neg h2, if_neg (by omega)]
  induction N with
  | zero => rw [fd, if_neg (by omega)]
  | succ N ih =>
    rw [fd, row N _ n hn, ih]
    by_cases h : a = N ∧ b < n
    · rw [if_pos h, if_pos (by omega), h.1]
    · rw [if_neg h]
      by_cases h2 : a < N ∧ b < n
      · rw [if_pos h2, if_pos (by omega)]
      · rw [if_neg h2, if_neg (by omega)]
theorem gain_bd {n : Nat} {tb : Nat → Int32} {B : Int} (hB : 0 ≤ B) (hB2 : B ≤ 1000000) (hb : ∀ q, q < 64 → -B ≤ (tb q).toInt ∧ (tb q).toInt ≤ B) (hn : n ≤ 8) {i : Nat} (hi : i < 8) (s : Int32) : -(9 * B) ≤ (g_gain n tb i s).toInt ∧ (g_gain n tb i s).toInt ≤ 9 * B := by
  have l2 : (n : Int) * B ≤ 8 * B := Int.mul_le_mul_of_nonneg_right (by omega) hB
  have h := sm_bd (f := fun j => if j ≠ i ∧ bb s j = true then tb (8 * i + j) else 0) hB (n := n) (fun j hj => by
    split
    · exact hb _ (by omega)
    · rw [ti_0]; omega) (by omega)
  have h2 := hb (8 * i + i) (by omega)
  rw [gain_sm, ti_add (by omega) (by omega)]
  omega
theorem tv_bd {n : Nat} {tb : Nat → Int32} {B : Int} (hB : 0 ≤ B) (hB2 : B ≤ 1000000) (hb : ∀ q, q < 64 → -B ≤ (tb q).toInt ∧ (tb q).toInt ≤ B) (hn : n ≤ 8) {i j : Nat} (hi : i < 8) (hj : j < 8) (s : Int32) : -(9 * B) ≤ (g_tv n tb s i j).toInt ∧ (g_tv n tb s i j).toInt ≤ 9 * B := by
  have h := gain_bd hB hB2 hb hn hi s
  have h2 := hb (8 * i + j) (by omega)
  rw [g_tv, g_cb]
  repeat' split
  · rw [ti_neg (by omega)]; omega
  · omega
  · omega
  · rw [ti_neg (by omega)]; omega
theorem far_iff {x : Int32} (h : -2147483648 < x.toInt) : 60 < iabs x ↔ inw x (-60) 60 = false := by
  have e1 : (-60 : Int32).toInt = -60 := rfl
  have e2 : (60 : Int32).toInt = 60 := rfl
  have hx := Int32.toInt_lt x
  rw [iabs_n h, fa_lt, nI_toInt (by omega), e2, inw, decide_eq_false_iff_not, fa_le, fa_le, e1, e2]
  omega
theorem anyB_ex {p : Nat → Bool} {n : Nat} : anyB p n = true ↔ ∃ i, i < n ∧ p i = true := by
  constructor
  · intro h
    obtain ⟨i, hi, hp⟩ := List.any_eq_true.mp h
    exact ⟨i, List.mem_range.mp hi, hp⟩
  · intro ⟨i, hi, hp⟩
    exact anyB_t hi hp
theorem b_turn {k : Nat} (hk : k ≤ 512) {wc wm : ix_W} (R : Rel k wc wm) (x : Int32) : Both k m_X4_turn m_X5_turn [.inl x] wc wm := by
  obtain ⟨n, c, tb, tl, se, on, dd, ch, tn, ro, ot, ow, tr, tu, ld, lc, cc, br, bw, fs, fo, cm, ce, li, ke, be, rfl, rfl, I⟩ := R
  have I0 := I
  obtain ⟨⟨hn1, hn, ht⟩, i2, i3, i4, i5, i6, i7, i8⟩ := I
  have hp := (pw_le hn).1
  by_cases h : inw x 0 (nI (2 ^ n) - 1) = true
  · obtain ⟨s, hs, rfl⟩ := inw_of (by omega) h
    obtain ⟨t1, t2⟩ := tt_eq i2 hn c s (Nat.le_refl n)
    rw [Nat.mod_eq_of_lt hs] at t1 t2
    have hM1 := m_turn (c := c) (tb := tb) (tl := tl) (se := se) (on := on) (dd := dd) (ch := ch) (fs := fs) (fo := fo) (cm := cm) (ce := ce) (li := li) (ke := ke) (be := be) hn h
    have hM2 := m_turn_not (c := c) (tb := tb) (tl := tl) (se := se) (on := on) (dd := dd) (ch := ch) (fs := fs) (fo := fo) (cm := cm) (ce := ce) (li := li) (ke := ke) (be := be) hn h
    rw [t1] at hM1
    generalize (fd (h_tt n (nI s)) (c, tb) n).2 = T at t2 hM1 hM2
    have bd : ∀ i j, i < n → j < n → -2147483648 < (g_tv n tb (nI s) i j).toInt := fun i j hi hj => by
      have := tv_bd (B := 60 + 10 * (k : Int)) (by omega) (by omega) i4 hn (i := i) (j := j) (by omega) (by omega) (nI s)
      omega
    have fe : ∀ q, q < 64 → (h_far T q = true ↔ (q / 8 < n ∧ q % 8 < n ∧ g_tk n tb (nI s) (q / 8) (q % 8) = false)) := fun q hq => by
      have e : q = 8 * (q / 8) + q % 8 := by omega
      rw [h_far, decide_eq_true_iff]
      rw [show T q = T (8 * (q / 8) + q % 8) by rw [← e], t2 _ _ (by omega), tvn]
      by_cases hh : q / 8 < n ∧ q % 8 < n
      · rw [if_pos hh, far_iff (bd _ _ hh.1 hh.2), g_tk]
        exact ⟨fun y => ⟨hh.1, hh.2, y⟩, fun y => y.2.2⟩
      · rw [if_neg hh, i3 _ _ (by omega) (by omega) (by omega)]
        exact ⟨fun y => absurd y (by decide), fun y => absurd ⟨y.1, y.2.1⟩ hh⟩
    cases hf : anyB (h_far T) 64 with
    | true =>
      obtain ⟨q0, hq0, hq1⟩ := anyB_ex.mp hf
      obtain ⟨q, ⟨hq, y1, y2, y3⟩, hmin⟩ := pk_least (fun q => q < 64 ∧ q / 8 < n ∧ q % 8 < n ∧ g_tk n tb (nI s) (q / 8) (q % 8) = false) ⟨q0, hq0, (fe q0 hq0).mp hq1⟩
      have ok : ∀ i j, i < n → j < n → 8 * i + j < q → g_tk n tb (nI s) i j = true := fun i j hi hj hl => by
        have e1 : (8 * i + j) / 8 = i := by omega
        have e2 : (8 * i + j) % 8 = j := by omega
        have := hmin (8 * i + j) hl
        rw [e1, e2] at this
        cases z : g_tk n tb (nI s) i j with
        | true => rfl
        | false => exact absurd ⟨by omega, hi, hj, z⟩ this
      obtain ⟨tn2, hC⟩ := c_turn_not (c := c) (tb := tb) (tn := tn) (tl := tl) (se := se) (on := on) (dd := dd) (ch := ch) (ro := ro) (ot := ot) (ow := ow) (tr := tr) (tu := tu) (ld := ld) (lc := lc) (cc := cc) (br := br) (bw := bw) hn h y1 y2 (fun i2 hi2 j hj => ok i2 j (by omega) hj (by omega)) (fun j2 hj2 => ok _ j2 y1 (by omega) (by omega)) y3
      have hM := hM2 hf
      have er : fd (h_cp (fd (h_cp tb) ke 64)) T 64 = tb := by
        funext q
        rw [show h_cp (fd (h_cp tb) ke 64) = fun x f => upd f x (fd (h_cp tb) ke 64 x) from rfl, cp_at]
        by_cases hq : q < 64
        · rw [if_pos hq, show h_cp tb = fun x f => upd f x (tb x) from rfl, cp_at, if_pos hq]
        · rw [if_neg hq]
          have e : q = 8 * (q / 8) + q % 8 := by omega
          rw [e, t2 _ _ (by omega), tvn, if_neg (by omega)]
      rw [er] at hM
      exact ⟨_, _, _, hC, hM, Rel.mk' I0.up⟩
    | false =>
      have ok : ∀ i, i < n → ∀ j, j < n → g_tk n tb (nI s) i j = true := fun i hi j hj => by
        cases z : g_tk n tb (nI s) i j with
        | true => rfl
        | false =>
          have e1 : (8 * i + j) / 8 = i := by omega
          have e2 : (8 * i + j) % 8 = j := by omega
          have := anyB_t (p := h_far T) (n := 64) (i := 8 * i + j) (by omega) ((fe _ (by omega)).mpr (by rw [e1, e2]; exact ⟨hi, hj, z⟩))
          rw [hf] at this
          exact absurd this (by decide)
      have hC := c_turn (c := c) (tb := tb) (tn := tn) (tl := tl) (se := se) (on := on) (dd := dd) (ch := ch) (ro := ro) (ot := ot) (ow := ow) (tr := tr) (tu := tu) (ld := ld) (lc := lc) (cc := cc) (br := br) (bw := bw) hn h ok
      have hM := hM1 hf
      have et : fd (g_cr n (fd (g_tr n tb (nI s)) tn n)) tb n = T := by
        funext q
        have e : q = 8 * (q / 8) + q % 8 := by omega
        rw [e, t2 _ _ (by omega), tvn, show g_cr n (fd (g_tr n tb (nI s)) tn n) = fun i f => fd (fun j f => upd f (8 * i + j) (fd (g_tr n tb (nI s)) tn n (8 * i + j))) f n from rfl, fill2 (fun i j => fd (g_tr n tb (nI s)) tn n (8 * i + j)) hn tb n _ _ (by omega)]
        by_cases hh : q / 8 < n ∧ q % 8 < n
        · rw [if_pos hh, if_pos hh, show g_tr n tb (nI s) = fun i f => fd (fun j f => upd f (8 * i + j) (g_tv n tb (nI s) i j)) f n from rfl, fill2 (fun i j => g_tv n tb (nI s) i j) hn tn n _ _ (by omega), if_pos hh]
        · rw [if_neg hh, if_neg hh]
      rw [et, en_eq hn] at hC
      refine ⟨_, _, _, hC, hM, Rel.mk' ?_⟩
      refine ⟨⟨hn1, hn, ht⟩, ?_, ?_, ?_, ?_, i6, i7, i8⟩
      · intro i j hi hj
        rw [t2 i j hj, t2 j i hi, tvn, tvn]
        by_cases hh : i < n ∧ j < n
        · rw [if_pos hh, if_pos ⟨hh.2, hh.1⟩]
          by_cases e : i = j
          · rw [e]
          · rw [g_tv, g_tv, if_neg e, if_neg (show ¬ j = i from fun y => e y.symm), i2 i j hi hj]
            by_cases z : bb (nI s) i = bb (nI s) j
            · rw [if_pos z, if_pos z.symm]
            · rw [if_neg z, if_neg (fun y => z y.symm)]
        · rw [if_neg hh, if_neg (by omega), i2 i j hi hj]
      · intro i j hi hj hh
        rw [t2 i j hj, tvn, if_neg (by omega), i3 i j hi hj hh]
      · intro q hq
        have e : q = 8 * (q / 8) + q % 8 := by omega
        rw [e, t2 _ _ (by omega), tvn]
        by_cases hh : q / 8 < n ∧ q % 8 < n
        · rw [if_pos hh]
          have := of_decide_eq_true (ok _ hh.1 _ hh.2)
          rw [fa_le, fa_le] at this
          have e1 : (-60 : Int32).toInt = -60 := rfl
          have e2 : (60 : Int32).toInt = 60 := rfl
          omega
        · rw [if_neg hh, i3 _ _ (by omega) (by omega) (by omega), ti_0]
          omega
      · have := enb_bd (B := 60 + 10 * (k : Int)) (by omega) (by omega) i4 (fun i => s.testBit i) hn
        rw [hen_b hn, ti_add (by omega) (by omega)]
        omega
  · exact ⟨_, _, _, c_turn_bad hn (inw_no h), m_turn_bad hn (inw_no h), Rel.mk' I0.up⟩
