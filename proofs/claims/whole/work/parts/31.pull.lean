/-! pull -/
theorem nI_gt0 {n : Nat} (h0 : 0 < n) (h : n < 2 ^ 31) : 0 < nI n := by rw [fa_lt, nI_toInt h, ti_0]; omega
def pv (d : Int) (M : Nat) : Nat := if 0 < M ∧ 0 ≤ d then d.toNat / M + 1 else 0
theorem pv_le {d : Int} {B : Nat} (h : d ≤ B) (M : Nat) : pv d M ≤ B + 1 := by
  rw [pv]
  split
  · have := Nat.div_le_self d.toNat M
    omega
  · omega
theorem pv_sub {R best : Int32} {d : Int} (hd : best.toInt - R.toInt = d) (h1 : -1000000 ≤ d) (h2 : d ≤ 1000000) : (best - R).toInt = d := by
  rw [ti_sub (by omega) (by omega), hd]
theorem pv_div {R best : Int32} {d : Int} {M : Nat} (hd : best.toInt - R.toInt = d) (h0 : 0 ≤ d) (h2 : d ≤ 1000000) (hM : 0 < M) (hM2 : M ≤ 1000) : (best - R) / nI M + 1 = nI (d.toNat / M + 1) := by
  have e : best - R = nI d.toNat := by
    rw [fa_eq, pv_sub hd (by omega) h2, nI_toInt (by omega)]; omega
  rw [e, pk_div (by omega) hM (by omega), nI_1]
theorem pv_h {R best : Int32} {d : Int} {M a : Nat} (hd : best.toInt - R.toInt = d) (h1 : -1000000 ≤ d) (h2 : d ≤ 1000000) (hM2 : M ≤ 1000) (ha : a ≤ 1000001) : (if 0 < nI M ∧ 0 ≤ best - R then (if (best - R) / nI M + 1 ≤ nI a then nI a else (best - R) / nI M + 1) else nI a) = nI (max a (pv d M)) := by
  rw [pv]
  by_cases h : 0 < M ∧ 0 ≤ d
  · rw [if_pos h, if_pos ⟨nI_gt0 h.1 (by omega), by rw [fa_le, pv_sub hd h1 h2, ti_0]; exact h.2⟩, pv_div hd h.2 h2 h.1 hM2]
    have := Nat.div_le_self d.toNat M
    by_cases q : d.toNat / M + 1 ≤ a
    · rw [if_pos (nI_le q (by omega)), Nat.max_eq_left q]
    · rw [if_neg (fun y => q ((nI_leI (by omega) (by omega)).mp y)), Nat.max_eq_right (by omega)]
  · rw [if_neg h, Nat.max_eq_left (by omega), if_neg]
    intro ⟨y1, y2⟩
    refine h ⟨(nI_ltI (by omega) (by omega)).mp (by rw [nI_0]; exact y1), ?_⟩
    rw [fa_le, pv_sub hd h1 h2, ti_0] at y2
    exact y2
theorem pv_g {R best : Int32} {d : Int} {M a : Nat} (hd : best.toInt - R.toInt = d) (h1 : -1000000 ≤ d) (h2 : d ≤ 1000000) (hM2 : M ≤ 1000) (ha : a ≤ 1000001) (hR : -100000000 ≤ R.toInt) (hR2 : R.toInt ≤ 100000000) : (if 0 < nI M ∧ R + nI a * nI M ≤ best then (best - R) / nI M + 1 else nI a) = nI (max a (pv d M)) := by
  have hm : a * M ≤ 1000001 * 1000 := Nat.mul_le_mul ha hM2
  have e : (R + nI a * nI M).toInt = R.toInt + ((a * M : Nat) : Int) := by
    rw [pk_mul, ti_add, nI_toInt (by omega)]
    · rw [nI_toInt (by omega)]; omega
    · rw [nI_toInt (by omega)]; omega
  rw [pv]
  by_cases h : 0 < M ∧ 0 ≤ d
  · rw [if_pos h, pv_div hd h.2 h2 h.1 hM2]
    by_cases q : a * M ≤ d.toNat
    · rw [if_pos ⟨nI_gt0 h.1 (by omega), by rw [fa_le, e]; omega⟩, Nat.max_eq_right (Nat.le_succ_of_le ((Nat.le_div_iff_mul_le h.1).mpr q))]
    · rw [if_neg (fun y => q (by have := y.2; rw [fa_le, e] at this; omega)), Nat.max_eq_left]
      rcases Nat.lt_or_ge (d.toNat / M) a with z | z
      · exact z
      · exact absurd ((Nat.le_div_iff_mul_le h.1).mp z) q
  · rw [if_neg h, Nat.max_eq_left (by omega), if_neg]
    intro ⟨y1, y2⟩
    refine h ⟨(nI_ltI (by omega) (by omega)).mp (by rw [nI_0]; exact y1), ?_⟩
    rw [fa_le, e] at y2
    omega
theorem mis_bd {tl : Nat} {se on : Nat → Int32} {s : Nat} (hs : s < 256) (ht : tl ≤ 6) (ho : ∀ l, l < tl → 0 ≤ (on l).toInt ∧ (on l).toInt ≤ 8) : ∃ M : Nat, M ≤ 384 ∧ h_mis tl se on (nI s) = nI M := by
  have key : ∀ t, t ≤ tl → 0 ≤ (fd (h_ms se on (nI s)) 0 t).toInt ∧ (fd (h_ms se on (nI s)) 0 t).toInt ≤ 64 * (t : Int) := by
    intro t
    induction t with
    | zero => intro _; rw [fd, ti_0]; omega
    | succ t ih =>
      intro ht2
      have ih := ih (by omega)
      rw [fd, h_ms]
      obtain ⟨q, hq, e⟩ := and_nI s (se t)
      have hb := bc8 q (by omega)
      have ho1 := ho t (by omega)
      rw [e, io_n]
      have e1 : (nI (bc1 q 20) - on t).toInt = (bc1 q 20 : Int) - (on t).toInt := by rw [ti_sub, nI_toInt (by omega)] <;> rw [nI_toInt (by omega)] <;> omega
      generalize hx : (bc1 q 20 : Int) - (on t).toInt = x at e1
      have hx1 : -8 ≤ x ∧ x ≤ 8 := by omega
      have e2 : 0 ≤ x * x ∧ x * x ≤ 64 := by
        rcases Int.le_total 0 x with z | z
        · exact ⟨Int.mul_nonneg z z, Int.le_trans (Int.mul_le_mul hx1.2 hx1.2 z (by omega)) (by omega)⟩
        · have : x * x = (-x) * (-x) := by rw [Int.neg_mul_neg]
          rw [this]
          exact ⟨Int.mul_nonneg (by omega) (by omega), Int.le_trans (Int.mul_le_mul (by omega : -x ≤ 8) (by omega : -x ≤ 8) (by omega) (by omega)) (by omega)⟩
      have e3 : ((nI (bc1 q 20) - on t) * (nI (bc1 q 20) - on t)).toInt = x * x := by rw [ti_mul, e1] <;> rw [e1] <;> omega
      rw [ti_add, e3] <;> (try rw [e3]) <;> omega
  obtain ⟨k1, k2⟩ := key tl (Nat.le_refl _)
  refine ⟨(h_mis tl se on (nI s)).toInt.toNat, ?_, ?_⟩
  · rw [h_mis]; omega
  · rw [fa_eq, nI_toInt]
    · rw [h_mis]; omega
    · rw [h_mis]; omega
theorem bk_eq {R E M M2 : Nat → Int32} : ∀ {N : Nat}, (∀ s, s < N → R s = E s ∧ M s = M2 s) → (fd (g_bk R M) none N).map R = fd (h_pk E M2) none N
  | 0, _ => rfl
  | N + 1, h => by
    have ih := bk_eq (N := N) (fun s hs => h s (by omega))
    rw [fd, fd, ← ih]
    unfold g_bk h_pk
    rw [(h N (by omega)).2]
    by_cases hM : M2 N = 0
    · rw [if_pos hM, if_pos hM]
      cases fd (g_bk R M) none N with
      | none => simp only [Option.map, (h N (by omega)).1]
      | some q =>
        simp only [Option.map, ← (h N (by omega)).1]
        by_cases z : R q ≤ R N
        · rw [if_pos z, if_pos z]
        · rw [if_neg z, if_neg z]
    · rw [if_neg hM, if_neg hM]
theorem en_bd {k n : Nat} {c : Int32} {tb : Nat → Int32} (hk : k ≤ 512) (hn : n ≤ 8) (i4 : ∀ q, q < 64 → -(60 + 10 * (k : Int)) ≤ (tb q).toInt ∧ (tb q).toInt ≤ 60 + 10 * (k : Int)) (i5 : -(186480 * (k : Int)) ≤ c.toInt ∧ c.toInt ≤ 186480 * (k : Int)) (s : Nat) : (h_en n c tb (nI s)).toInt = c.toInt + (enb n tb (fun i => s.testBit i)).toInt ∧ -186480 ≤ (enb n tb (fun i => s.testBit i)).toInt ∧ (enb n tb (fun i => s.testBit i)).toInt ≤ 186480 := by
  have := enb_bd (B := 60 + 10 * (k : Int)) (by omega) (by omega) i4 (fun i => s.testBit i) hn
  rw [hen_b hn, ti_add (by omega) (by omega)]
  omega
def mx (f : Nat → Nat) : Nat → Nat
  | 0 => 0
  | n + 1 => max (mx f n) (f n)
theorem mx_le {f : Nat → Nat} {B : Nat} : ∀ {n : Nat}, (∀ i, i < n → f i ≤ B) → mx f n ≤ B
  | 0, _ => Nat.zero_le _
  | n + 1, h => Nat.max_le.mpr ⟨mx_le (fun i hi => h i (by omega)), h n (by omega)⟩
theorem b_pull {k : Nat} (hk : k ≤ 512) {wc wm : ix_W} (R : Rel k wc wm) : Both k m_X4_pull m_X5_pull [] wc wm := by
  obtain ⟨n, c, tb, tl, se, on, dd, ch, tn, ro, ot, ow, tr, tu, ld, lc, cc, br, bw, fs, fo, cm, ce, li, ke, be, rfl, rfl, I⟩ := R
  have I0 := I
  obtain ⟨⟨hn1, hn, ht⟩, i2, i3, i4, i5, i6, i7, i8⟩ := I
  have hp := (pw_le hn).1
  have hR : ∀ s, s < 2 ^ n → g_fill n c tb ro s = h_E n c tb s ∧ g_mis tl se on (nI s) = h_M tl se on s := fun s hs => ⟨fill_eq i2 hn c ro hs, mis_eq tl se on (by omega)⟩
  have e := bk_eq (M := fun s => g_mis tl se on (nI s)) hR
  cases h : fd (g_bk (g_fill n c tb ro) (fun s => g_mis tl se on (nI s))) none (2 ^ n) with
  | none =>
    rw [h] at e
    exact ⟨_, _, _, c_pull_no hn ht h, m_pull_no hn ht e.symm, Rel.mk' I0.up⟩
  | some q =>
    rw [h] at e
    have hq := g_bk_lt _ _ _ q h
    have e' : fd (h_pk (h_E n c tb) (h_M tl se on)) none (2 ^ n) = some (h_en n c tb (nI q)) := by rw [← e, Option.map, (hR q hq).1]
    have hC := c_pull (c := c) (tb := tb) (tn := tn) (se := se) (on := on) (dd := dd) (ch := ch) (ro := ro) (ot := ot) (ow := ow) (tr := tr) (tu := tu) (ld := ld) (lc := lc) (cc := cc) (br := br) (bw := bw) hn ht h
    have hM := m_pull (c := c) (tb := tb) (tl := tl) (se := se) (on := on) (dd := dd) (ch := ch) (fs := fs) (fo := fo) (cm := cm) (ce := ce) (li := li) (ke := ke) (be := be) hn ht e'
    rw [(hR q hq).1] at hC
    have hq2 := en_bd (c := c) hk hn i4 i5 q
    have hd : ∀ s, ∃ (d : Int), (h_en n c tb (nI q)).toInt - (h_en n c tb (nI s)).toInt = d ∧ -1000000 ≤ d ∧ d ≤ 1000000 := fun s => by
      have hs2 := en_bd (c := c) hk hn i4 i5 s
      exact ⟨_, rfl, by omega, by omega⟩
    have hMM : ∀ s, s < 2 ^ n → ∃ M : Nat, M ≤ 384 ∧ h_mis tl se on (nI s) = nI M := fun s hs => mis_bd (by omega) ht i6
    have key : ∀ N, N ≤ 2 ^ n → ∃ a : Nat, a ≤ 1000001 ∧ fd (g_pl (g_fill n c tb ro) (fun s => g_mis tl se on (nI s)) (h_E n c tb q)) 0 N = nI a ∧ fd (h_pm (h_E n c tb) (h_M tl se on) (h_en n c tb (nI q))) 0 N = nI a := by
      intro N
      induction N with
      | zero => intro _; exact ⟨0, by omega, rfl, rfl⟩
      | succ N ih =>
        intro hN
        obtain ⟨a, ha, f1, f2⟩ := ih (by omega)
        obtain ⟨M, hM1, hM2⟩ := hMM N (by omega)
        obtain ⟨d, hd1, hd2, hd3⟩ := hd N
        have hs2 := en_bd (c := c) hk hn i4 i5 N
        refine ⟨max a (pv d M), Nat.max_le.mpr ⟨ha, pv_le (B := 1000000) hd3 M⟩, ?_, ?_⟩
        · rw [fd, f1, g_pl, (hR N (by omega)).1, (hR N (by omega)).2, h_M, hM2]
          exact pv_g (R := h_en n c tb (nI N)) hd1 hd2 hd3 (by omega) ha (by omega) (by omega)
        · rw [fd, f2, h_pm, h_M, hM2]
          exact pv_h hd1 hd2 hd3 (by omega) ha
    obtain ⟨a, ha, f1, f2⟩ := key _ (Nat.le_refl _)
    rw [f1] at hC
    rw [f2] at hM
    refine ⟨_, _, _, hC, Cl.eq hM rfl ?_, Rel.mk' I0.up⟩
    congr 2
    rw [imin, show (1001 : Int32) = nI 1001 from rfl, show (1000 : Int32) = nI 1000 from rfl]
    by_cases z : a ≤ 1000
    · rw [if_pos (nI_le z (by omega)), if_neg (nI_nlt (by omega) (by omega))]
    · rw [if_neg (nI_ge (by omega) (by omega))]
      split
      · rfl
      · rename_i z2
        rw [nI_ltI (by omega) (by omega)] at z2
        congr 1; omega
