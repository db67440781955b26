/-! class and reference side by side -/
def Inv (k n : Nat) (c : Int32) (tb : Nat → Int32) (tl : Nat) (on : Nat → Int32) (dd : Int32) (ch : Nat → Int32) : Prop :=
  (1 ≤ n ∧ n ≤ 8 ∧ tl ≤ 6) ∧ (∀ i j, i < 8 → j < 8 → tb (8 * i + j) = tb (8 * j + i)) ∧ (∀ i j, i < 8 → j < 8 → (n ≤ i ∨ n ≤ j) → tb (8 * i + j) = 0) ∧ (∀ q, q < 64 → -(60 + 10 * (k : Int)) ≤ (tb q).toInt ∧ (tb q).toInt ≤ 60 + 10 * (k : Int)) ∧ (-(186480 * (k : Int)) ≤ c.toInt ∧ c.toInt ≤ 186480 * (k : Int)) ∧ (∀ l, l < tl → 0 ≤ (on l).toInt ∧ (on l).toInt ≤ 8) ∧ (∃ d, d < 2 ^ 20 ∧ dd = nI d) ∧ (∃ mm : Nat → Nat, (∀ i, i < 8 → ch i = nI (mm i) ∧ mm i < 2 ^ 20) ∧ ∀ i, n ≤ i → i < 8 → mm i = 0)
def Rel (k : Nat) (wc wm : ix_W) : Prop := ∃ (n : Nat) (c : Int32) (tb : Nat → Int32) (tl : Nat) (se on : Nat → Int32) (dd : Int32) (ch tn ro ot ow tr tu ld : Nat → Int32) (lc : Nat) (cc br bw fs fo : Int32) (cm : Nat) (ce li ke be : Nat → Int32), wc = (cw n c tb tn tl se on dd ch ro ot ow tr tu ld lc cc br bw) ∧ wm = (mw n c tb tl se on dd ch fs fo cm ce li ke be) ∧ Inv k n c tb tl on dd ch
theorem Rel.mk' {k n : Nat} {c : Int32} {tb : Nat → Int32} {tl : Nat} {se on : Nat → Int32} {dd : Int32} {ch tn ro ot ow tr tu ld : Nat → Int32} {lc : Nat} {cc br bw fs fo : Int32} {cm : Nat} {ce li ke be : Nat → Int32} (I : Inv k n c tb tl on dd ch) : Rel k (cw n c tb tn tl se on dd ch ro ot ow tr tu ld lc cc br bw) (mw n c tb tl se on dd ch fs fo cm ce li ke be) := ⟨_, _, _, _, _, _, _, _, _, _, _, _, _, _, _, _, _, _, _, _, _, _, _, _, _, _, rfl, rfl, I⟩
def Both (k m1 m2 : Nat) (as : List ix_V) (wc wm : ix_W) : Prop := ∃ (r : Int32) (wc1 wm1 : ix_W), Cl m1 (.inr 0 :: as) wc (some (.inl r)) wc1 ∧ Cl m2 (.inr 0 :: as) wm (some (.inl r)) wm1 ∧ Rel (k + 1) wc1 wm1
theorem Inv.up {k n : Nat} {c : Int32} {tb : Nat → Int32} {tl : Nat} {on : Nat → Int32} {dd : Int32} {ch : Nat → Int32} (I : Inv k n c tb tl on dd ch) : Inv (k + 1) n c tb tl on dd ch := by
  obtain ⟨h1, h2, h3, h4, h5, h6, h7, h8⟩ := I
  refine ⟨h1, h2, h3, fun q hq => ?_, ?_, h6, h7, h8⟩
  · have := h4 q hq; omega
  · omega
theorem inw_rng {x : Int32} {a b : Nat} (hb : b < 2 ^ 31) (ha : a < 2 ^ 31) (h : inw x (nI a) (nI b) = true) : ∃ m : Nat, a ≤ m ∧ m ≤ b ∧ x = nI m := by
  obtain ⟨h1, h2⟩ := of_decide_eq_true h
  have h0 : ¬ x < 0 := fun q => by
    rw [fa_lt] at q
    rw [fa_le, nI_toInt ha] at h1
    have : (0 : Int32).toInt = 0 := rfl
    omega
  obtain ⟨m, hm, rfl⟩ := nI_of h0
  exact ⟨m, (nI_leI ha hm).mp h1, (nI_leI hm hb).mp h2, rfl⟩
theorem inw_no {x a b : Int32} (h : ¬ inw x a b = true) : inw x a b = false := by
  cases e : inw x a b with
  | true => exact absurd e h
  | false => rfl
theorem zero_fill (f : Nat → Int32) (N q : Nat) : fd (fun j f => upd f j 0) f N q = if q < N then 0 else f q := by
  induction N with
  | zero => rw [if_neg (by omega)]; rfl
  | succ N ih =>
    rw [fd]
    by_cases h : q = N
    · subst h; rw [pk_us, if_pos (by omega)]
    · rw [pk_un h, ih]
      by_cases h2 : q < N
      · rw [if_pos h2, if_pos (by omega)]
      · rw [if_neg h2, if_neg (by omega)]
theorem b_letters {k : Nat} {wc wm : ix_W} (R : Rel k wc wm) (x : Int32) : Both k m_X4_letters m_X5_letters [.inl x] wc wm := by
  obtain ⟨n, c, tb, tl, se, on, dd, ch, tn, ro, ot, ow, tr, tu, ld, lc, cc, br, bw, fs, fo, cm, ce, li, ke, be, rfl, rfl, I⟩ := R
  by_cases h : inw x 1 8 = true
  · obtain ⟨m, hm1, hm2, rfl⟩ := inw_rng (a := 1) (b := 8) (by omega) (by omega) h
    refine ⟨_, _, _, c_letters m h, m_letters m h, Rel.mk' ?_⟩
    obtain ⟨h1, h2, h3, h4, h5, h6, h7, h8⟩ := I
    refine ⟨⟨hm1, hm2, by omega⟩, ?_, ?_, ?_, ?_, fun l hl => absurd hl (by omega), h7, ?_⟩
    · intro i j hi hj
      rw [zero_fill, zero_fill, if_pos (by omega), if_pos (by omega)]
    · intro i j hi hj _
      rw [zero_fill, if_pos (by omega)]
    · intro q hq
      rw [zero_fill, if_pos hq]
      have : (0 : Int32).toInt = 0 := rfl
      omega
    · have : (0 : Int32).toInt = 0 := rfl
      omega
    · refine ⟨fun _ => 0, fun i hi => ?_, fun _ _ _ => rfl⟩
      rw [zero_fill, if_pos hi]
      exact ⟨rfl, Nat.two_pow_pos 20⟩
  · exact ⟨_, _, _, c_letters_no (inw_no h), m_letters_no (inw_no h), Rel.mk' I.up⟩
theorem put2_at (tb : Nat → Int32) (a b : Nat) (x : Int32) {i j : Nat} (ha : a < 8) (hb : b < 8) (hi : i < 8) (hj : j < 8) : upd (upd tb (8 * a + b) x) (8 * b + a) x (8 * i + j) = if (i = a ∧ j = b) ∨ (i = b ∧ j = a) then x else tb (8 * i + j) := by
  by_cases h1 : i = b ∧ j = a
  · rw [if_pos (Or.inr h1), h1.1, h1.2, pk_us]
  · rw [pk_un (by omega)]
    by_cases h2 : i = a ∧ j = b
    · rw [if_pos (Or.inl h2), h2.1, h2.2, pk_us]
    · rw [pk_un (by omega), if_neg (fun q => q.elim h2 h1)]
theorem b_weigh {k : Nat} {wc wm : ix_W} (R : Rel k wc wm) (x y z : Int32) : Both k m_X4_weigh m_X5_weigh [.inl x, .inl y, .inl z] wc wm := by
  obtain ⟨n, c, tb, tl, se, on, dd, ch, tn, ro, ot, ow, tr, tu, ld, lc, cc, br, bw, fs, fo, cm, ce, li, ke, be, rfl, rfl, I⟩ := R
  by_cases h1 : inw x 0 (nI n - 1) = true
  · by_cases h2 : inw y 0 (nI n - 1) = true
    · by_cases h3 : inw z (-60) 60 = true
      · have hn := I.1.2.1
        obtain ⟨a, ha, rfl⟩ := inw_of (by omega) h1
        obtain ⟨b, hb, rfl⟩ := inw_of (by omega) h2
        refine ⟨_, _, _, c_weigh (by omega) (by omega) h1 h2 h3, m_weigh (by omega) (by omega) h1 h2 h3, Rel.mk' ?_⟩
        obtain ⟨i1, i2, i3, i4, i5, i6, i7, i8⟩ := I
        obtain ⟨z1, z2⟩ := of_decide_eq_true h3
        rw [fa_le] at z1 z2
        have e1 : (-60 : Int32).toInt = -60 := rfl
        have e2 : (60 : Int32).toInt = 60 := rfl
        refine ⟨i1, ?_, ?_, ?_, by omega, i6, i7, i8⟩
        · intro i j hi hj
          rw [put2_at tb a b z (by omega) (by omega) hi hj, put2_at tb a b z (by omega) (by omega) hj hi, i2 i j hi hj]
          by_cases q : (i = a ∧ j = b) ∨ (i = b ∧ j = a)
          · rw [if_pos q, if_pos (by omega)]
          · rw [if_neg q, if_neg (by omega)]
        · intro i j hi hj hh
          rw [put2_at tb a b z (by omega) (by omega) hi hj, if_neg (by omega)]
          exact i3 i j hi hj hh
        · intro q hq
          have e : q = 8 * (q / 8) + q % 8 := by omega
          rw [e, put2_at tb a b z (by omega) (by omega) (by omega) (by omega)]
          split
          · omega
          · have := i4 _ (by omega : 8 * (q / 8) + q % 8 < 64); omega
      · exact ⟨_, _, _, c_weigh_no (Or.inr (Or.inr (inw_no h3))), m_weigh_no (Or.inr (Or.inr (inw_no h3))), Rel.mk' I.up⟩
    · exact ⟨_, _, _, c_weigh_no (Or.inr (Or.inl (inw_no h2))), m_weigh_no (Or.inr (Or.inl (inw_no h2))), Rel.mk' I.up⟩
  · exact ⟨_, _, _, c_weigh_no (Or.inl (inw_no h1)), m_weigh_no (Or.inl (inw_no h1)), Rel.mk' I.up⟩
theorem b_weight {k : Nat} {wc wm : ix_W} (R : Rel k wc wm) (x y : Int32) : Both k m_X4_weight m_X5_weight [.inl x, .inl y] wc wm := by
  obtain ⟨n, c, tb, tl, se, on, dd, ch, tn, ro, ot, ow, tr, tu, ld, lc, cc, br, bw, fs, fo, cm, ce, li, ke, be, rfl, rfl, I⟩ := R
  by_cases h1 : inw x 0 (nI n - 1) = true
  · by_cases h2 : inw y 0 (nI n - 1) = true
    · have hn := I.1.2.1
      obtain ⟨a, ha, rfl⟩ := inw_of (by omega) h1
      obtain ⟨b, hb, rfl⟩ := inw_of (by omega) h2
      exact ⟨_, _, _, c_weight (by omega) (by omega) h1 h2, m_weight (by omega) (by omega) h1 h2, Rel.mk' I.up⟩
    · exact ⟨_, _, _, c_weight_no (Or.inr (inw_no h2)), m_weight_no (Or.inr (inw_no h2)), Rel.mk' I.up⟩
  · exact ⟨_, _, _, c_weight_no (Or.inl (inw_no h1)), m_weight_no (Or.inl (inw_no h1)), Rel.mk' I.up⟩
theorem b_energy {k : Nat} {wc wm : ix_W} (R : Rel k wc wm) (x : Int32) : Both k m_X4_energy m_X5_energy [.inl x] wc wm := by
  obtain ⟨n, c, tb, tl, se, on, dd, ch, tn, ro, ot, ow, tr, tu, ld, lc, cc, br, bw, fs, fo, cm, ce, li, ke, be, rfl, rfl, I⟩ := R
  have hn := I.1.2.1
  have hp := (pw_le hn).1
  refine ⟨_, _, _, c_energy hn x, Cl.eq (m_energy hn x) rfl ?_, Rel.mk' I.up⟩
  by_cases h : inw x 0 (nI (2 ^ n) - 1) = true
  · obtain ⟨a, ha, rfl⟩ := inw_of (by omega) h
    rw [if_pos h, if_pos h, en_eq hn]
  · rw [if_neg h, if_neg h]
theorem lok_eq {n : Nat} (hn : n ≤ 8) (s k : Int32) : g_lok n s k = h_lok n s k := by
  have hp := (pw_le hn).1
  unfold g_lok h_lok
  by_cases h : inw s 0 (nI (2 ^ n) - 1) = true
  · obtain ⟨a, ha, rfl⟩ := inw_of (by omega) h
    rw [h, ibc_io (by omega)]
    by_cases h0 : a = 0
    · subst h0
      have e1 : inw (nI 0) 1 (nI (2 ^ n) - 1) = false := decide_eq_false (fun q => absurd q.1 (by decide))
      rw [e1, decide_eq_false (fun q => q rfl)]
      rfl
    · have e1 : inw (nI a) 1 (nI (2 ^ n) - 1) = true := by
        obtain ⟨q1, q2⟩ := of_decide_eq_true h
        exact decide_eq_true ⟨nI_le (a := 1) (by omega) (by omega), q2⟩
      rw [e1, decide_eq_true (nI_ne0 (by omega) (by omega))]; rfl
  · have e1 : inw s 1 (nI (2 ^ n) - 1) = false := decide_eq_false (fun q => h (decide_eq_true ⟨by
      have := q.1
      rw [fa_le] at this ⊢
      have e0 : (0 : Int32).toInt = 0 := rfl
      have e1 : (1 : Int32).toInt = 1 := rfl
      omega, q.2⟩))
    rw [inw_no h, e1]; rfl
theorem bc8 : ∀ a, a < 256 → bc1 a 20 ≤ 8 := by decide +kernel
theorem b_law {k : Nat} {wc wm : ix_W} (R : Rel k wc wm) (x y : Int32) : Both k m_X4_law m_X5_law [.inl x, .inl y] wc wm := by
  obtain ⟨n, c, tb, tl, se, on, dd, ch, tn, ro, ot, ow, tr, tu, ld, lc, cc, br, bw, fs, fo, cm, ce, li, ke, be, rfl, rfl, I⟩ := R
  obtain ⟨hn1, hn, ht⟩ := I.1
  have hp := (pw_le hn).1
  have hl := lok_eq hn x y
  cases h : g_lok n x y with
  | false => exact ⟨_, _, _, c_law_no hn h, m_law_no hn (hl ▸ h), Rel.mk' I.up⟩
  | true =>
    rcases Nat.lt_or_ge tl 6 with q | q
    · refine ⟨_, _, _, c_law hn h q, m_law hn (hl ▸ h) q, Rel.mk' ?_⟩
      obtain ⟨i1, i2, i3, i4, i5, i6, i7, i8⟩ := I.up
      refine ⟨⟨hn1, hn, by omega⟩, i2, i3, i4, i5, fun l hl2 => ?_, i7, i8⟩
      rcases Nat.lt_or_ge l tl with z | z
      · rw [pk_un (by omega)]; exact i6 l z
      · have : l = tl := by omega
        subst this
        rw [pk_us]
        rw [g_lok, Bool.and_eq_true, Bool.and_eq_true] at h
        obtain ⟨a, ha, rfl⟩ := inw_of (by omega) h.1
        rw [ibc_n (by omega)] at h
        obtain ⟨m, -, hm, rfl⟩ := inw_rng (a := 0) (b := bc1 a 20) (by have := bc1_le a 20; omega) (by omega) h.2.2
        have := bc8 a (by omega)
        rw [nI_toInt (by omega)]
        omega
    · have : tl = 6 := by omega
      exact ⟨_, _, _, c_law_full hn h this, m_law_full hn (hl ▸ h) this, Rel.mk' I.up⟩
theorem b_unlaw {k : Nat} {wc wm : ix_W} (R : Rel k wc wm) : Both k m_X4_unlaw m_X5_unlaw [] wc wm := by
  obtain ⟨n, c, tb, tl, se, on, dd, ch, tn, ro, ot, ow, tr, tu, ld, lc, cc, br, bw, fs, fo, cm, ce, li, ke, be, rfl, rfl, I⟩ := R
  cases tl with
  | zero => exact ⟨_, _, _, c_unlaw_no rfl, m_unlaw_no rfl, Rel.mk' I.up⟩
  | succ tl =>
    obtain ⟨⟨i0, i1, i1'⟩, i2, i3, i4, i5, i6, i7, i8⟩ := I.up
    exact ⟨_, _, _, c_unlaw (by omega), m_unlaw (by omega), Rel.mk' ⟨⟨i0, i1, by omega⟩, i2, i3, i4, i5, fun l hl => i6 l (by omega), i7, i8⟩⟩
theorem floor_eq (n : Nat) (c : Int32) (tb : Nat → Int32) : fd (g_lbr tb) c n = fd (h_lbr tb) c n := by
  apply fd_congr
  intro i a _
  rw [g_lbr, h_lbr]
  apply fd_congr
  intro j b _
  rw [g_lb, h_lb, imin]
  congr 1
  by_cases h : 0 ≤ tb (8 * i + j)
  · rw [if_pos h]
    by_cases h2 : 0 < tb (8 * i + j)
    · rw [if_pos h2]
    · rw [if_neg h2]
      rw [i32_nlt] at h2
      rw [fa_le] at h h2
      rw [fa_eq]; omega
  · rw [if_neg h, if_neg (fun q => h (by rw [fa_lt] at q; rw [fa_le]; omega))]
theorem b_floor {k : Nat} {wc wm : ix_W} (R : Rel k wc wm) : Both k m_X4_floor m_X5_floor [] wc wm := by
  obtain ⟨n, c, tb, tl, se, on, dd, ch, tn, ro, ot, ow, tr, tu, ld, lc, cc, br, bw, fs, fo, cm, ce, li, ke, be, rfl, rfl, I⟩ := R
  have hn := I.1.2.1
  exact ⟨_, _, _, c_floor hn, Cl.eq (m_floor hn) rfl (by rw [floor_eq]), Rel.mk' I.up⟩
theorem sh1_n {q : Nat} (hq : q < 20) : (1 : Int32) <<< (nI q &&& 31) = nI (2 ^ q) := by
  have : ∀ q, q < 20 → (1 : Int32) <<< (nI q &&& 31) = nI (2 ^ q) := by decide +kernel
  exact this q hq
theorem not_n {q : Nat} (hq : q < 20) : nI (2 ^ q) ^^^ (-1) = nI (2 ^ 32 - 1 - 2 ^ q) := by
  have : ∀ q, q < 20 → nI (2 ^ q) ^^^ (-1) = nI (2 ^ 32 - 1 - 2 ^ q) := by decide +kernel
  exact this q hq
theorem b_kill {k : Nat} {wc wm : ix_W} (R : Rel k wc wm) (x y : Int32) : Both k m_X4_kill m_X5_kill [.inl x, .inl y] wc wm := by
  obtain ⟨n, c, tb, tl, se, on, dd, ch, tn, ro, ot, ow, tr, tu, ld, lc, cc, br, bw, fs, fo, cm, ce, li, ke, be, rfl, rfl, I⟩ := R
  by_cases h : inw x 0 19 = true
  · obtain ⟨q, -, hq, rfl⟩ := inw_rng (a := 0) (b := 19) (by omega) (by omega) h
    refine ⟨_, _, _, c_kill y h, m_kill (by omega) y h, Rel.mk' ?_⟩
    obtain ⟨i1, i2, i3, i4, i5, i6, ⟨d, hd, rfl⟩, i8⟩ := I.up
    refine ⟨i1, i2, i3, i4, i5, i6, ?_, i8⟩
    unfold g_sd
    rw [sh1_n (by omega)]
    split
    · rw [not_n (by omega), fa_and]
      exact ⟨_, Nat.lt_of_le_of_lt Nat.and_le_left hd, rfl⟩
    · rw [fa_or]
      exact ⟨_, Nat.or_lt_two_pow hd (Nat.pow_lt_pow_right (by omega) (by omega)), rfl⟩
  · exact ⟨_, _, _, c_kill_no y (inw_no h), m_kill_no y (inw_no h), Rel.mk' I.up⟩
theorem b_chain {k : Nat} {wc wm : ix_W} (R : Rel k wc wm) (x y : Int32) : Both k m_X4_chain m_X5_chain [.inl x, .inl y] wc wm := by
  obtain ⟨n, c, tb, tl, se, on, dd, ch, tn, ro, ot, ow, tr, tu, ld, lc, cc, br, bw, fs, fo, cm, ce, li, ke, be, rfl, rfl, I⟩ := R
  have hn := I.1.2.1
  by_cases h1 : inw x 0 (nI n - 1) = true
  · by_cases h2 : inw y 0 1048575 = true
    · obtain ⟨a, ha, rfl⟩ := inw_of (by omega) h1
      obtain ⟨m, -, hm, rfl⟩ := inw_rng (a := 0) (b := 1048575) (by omega) (by omega) h2
      refine ⟨_, _, _, c_chain (by omega) h1 h2, Cl.eq (m_chain (by omega) h1 h2) rfl (by rw [ibc_io (by omega)]), Rel.mk' ?_⟩
      obtain ⟨i1, i2, i3, i4, i5, i6, i7, ⟨mm, hmm, hz⟩⟩ := I.up
      refine ⟨i1, i2, i3, i4, i5, i6, i7, fun i => if i = a then m else mm i, fun i hi => ?_, fun i h1 h2 => ?_⟩
      · by_cases e : i = a
        · subst e
          rw [pk_us]; simp only [if_pos]; exact ⟨trivial, by omega⟩
        · rw [pk_un e]; simp only [if_neg e]; exact hmm i hi
      · have e : ¬ i = a := by omega
        simp only [if_neg e]; exact hz i h1 h2
    · exact ⟨_, _, _, c_chain_no (Or.inr (inw_no h2)), m_chain_no (Or.inr (inw_no h2)), Rel.mk' I.up⟩
  · exact ⟨_, _, _, c_chain_no (Or.inl (inw_no h1)), m_chain_no (Or.inl (inw_no h1)), Rel.mk' I.up⟩
/-! counts -/
theorem fd_tail {α : Type} {g : Nat → α → α} {s : α} {n m : Nat} (h : ∀ i a, n ≤ i → i < m → g i a = a) (hm : n ≤ m) : fd g s m = fd g s n := by
  obtain ⟨d, rfl⟩ := Nat.exists_eq_add_of_le hm
  clear hm
  induction d with
  | zero => rfl
  | succ d ih => rw [show n + (d + 1) = (n + d) + 1 by omega, fd, h _ _ (by omega) (by omega), ih (fun i a h1 h2 => h i a h1 (by omega))]
theorem all_eq {n : Nat} {ch : Nat → Int32} (hn : n ≤ 8) (hz : ∀ i, n ≤ i → i < 8 → ch i = 0) : fd (g_all ch) 0 8 = fd (g_all ch) 0 n := by
  refine fd_tail (fun i a h1 h2 => ?_) hn
  rw [g_all, hz i h1 h2]
  apply b_ext
  intro j _
  rw [b_or, b_0, Bool.or_false]
theorem tog_eq {n : Nat} {ch : Nat → Int32} (hn : n ≤ 8) {mm : Nat → Nat} (hm : ∀ i, i < 8 → ch i = nI (mm i) ∧ mm i < 2 ^ 20) (hz : ∀ i, n ≤ i → i < 8 → mm i = 0) : fd (g_tog ch) 0 8 = fd (h_tog ch) 0 n := by
  rw [fd_tail (n := n) (m := 8) (fun i a h1 h2 => ?_) hn]
  · apply fd_congr
    intro i a hi
    obtain ⟨e, hlt⟩ := hm i (by omega)
    rw [g_tog, h_tog, e, ibc_io hlt]
  · rw [g_tog, (hm i h2).1, hz i h1 h2, show ibc (nI 0) = 0 by decide, Int32.add_zero]
theorem wp_eq (n : Nat) (tb : Nat → Int32) : fd (g_wpr tb) 0 n = fd (h_wpr tb) 0 n := by
  apply fd_congr
  intro i a _
  rw [g_wpr, h_wpr]
  apply fd_congr
  intro j b _
  rw [g_wp, h_wp]
  split
  · rw [Int32.add_zero]
  · rfl
theorem b_count {k : Nat} {wc wm : ix_W} (R : Rel k wc wm) (x : Int32) : Both k m_X4_count m_X5_count [.inl x] wc wm := by
  obtain ⟨n, c, tb, tl, se, on, dd, ch, tn, ro, ot, ow, tr, tu, ld, lc, cc, br, bw, fs, fo, cm, ce, li, ke, be, rfl, rfl, I⟩ := R
  have hn := I.1.2.1
  have I0 := I
  obtain ⟨i1, i2, i3, i4, i5, i6, ⟨d, hd, rfl⟩, ⟨mm, hmm, hz⟩⟩ := I
  by_cases h : x.toInt < 0 ∨ 5 < x.toInt
  · exact ⟨_, _, _, c_count_no h, m_count_no h, Rel.mk' I0.up⟩
  · obtain ⟨m, hm, rfl⟩ := nI_of (x := x) (fun q => h (Or.inl (by rw [fa_lt] at q; exact q)))
    rw [nI_toInt hm] at h
    have h5 : m ≤ 5 := by omega
    match m, h5 with
    | 0, _ => exact ⟨_, _, _, c_count0, m_count0, Rel.mk' I0.up⟩
    | 1, _ => exact ⟨_, _, _, c_count1 hn, Cl.eq (m_count1 hn) rfl (by rw [wp_eq]), Rel.mk' I0.up⟩
    | 2, _ => exact ⟨_, _, _, c_count2, m_count2, Rel.mk' I0.up⟩
    | 3, _ => exact ⟨_, _, _, c_count3, Cl.eq m_count3 rfl (by rw [ibc_io hd]), Rel.mk' I0.up⟩
    | 4, _ => exact ⟨_, _, _, c_count4, Cl.eq (m_count4 hn) rfl (by rw [tog_eq hn hmm hz]), Rel.mk' I0.up⟩
    | 5, _ => exact ⟨_, _, _, c_count5, m_count5, Rel.mk' I0.up⟩
    | m + 6, h => exact absurd h (by omega)
/-! best states -/
theorem fw_at (tl : Nat) (se on : Nat → Int32) (p : Int32) (F : Nat → Int32) (N s : Nat) : fd (g_fw tl se on p) F N s = if s < N then F s + p * g_mis tl se on (nI s) else F s := by
  induction N with
  | zero => rw [if_neg (by omega)]; rfl
  | succ N ih =>
    rw [fd, g_fw]
    by_cases h : s = N
    · subst h; rw [pk_us, ih, if_neg (by omega), if_pos (by omega)]
    · rw [pk_un h, ih]
      by_cases h2 : s < N
      · rw [if_pos h2, if_pos (by omega)]
      · rw [if_neg h2, if_neg (by omega)]
theorem row_eq {n : Nat} {tb : Nat → Int32} (hsym : ∀ i j, i < 8 → j < 8 → tb (8 * i + j) = tb (8 * j + i)) (hn : n ≤ 8) (c : Int32) (tl : Nat) (se on ro : Nat → Int32) (p : Int32) {s : Nat} (hs : s < 2 ^ n) : g_row n c tb tl se on ro p s = h_wd n c tb tl se on p s := by
  have hp := (pw_le hn).1
  rw [g_row, fw_at, if_pos hs, fill_eq hsym hn c ro hs, h_wd, mis_eq tl se on (by omega)]
theorem low_congr {n : Nat} {A B : Nat → Int32} (h : ∀ s, s < 2 ^ n → A s = B s) : g_low n A = g_low n B := by
  have hp := Nat.two_pow_pos n
  unfold g_low
  rw [h 0 hp]
  apply fd_congr
  intro t a ht
  rw [g_mn, g_mn, h (t + 1) (by omega)]
theorem li_cn {R V : Nat → Int32} {m : Int32} (f : Nat → Int32) : ∀ {N : Nat}, (∀ s, s < N → R s = V s) → (fd (g_li R m) (f, 0) N).2 = h_cn V m N ∧ ∀ j, j < h_cn V m N → ∃ s, s < N ∧ V s = m ∧ h_cn V m s = j ∧ (fd (g_li R m) (f, 0) N).1 j = nI s
  | 0, _ => ⟨rfl, fun j hj => absurd hj (by simp [h_cn, fb_ct])⟩
  | N + 1, H => by
    obtain ⟨h1, h2⟩ := li_cn (V := V) (m := m) f (N := N) (fun s hs => H s (by omega))
    rw [fd, g_li, H N (by omega), h_cn_s]
    by_cases h : V N = m
    · rw [if_pos h, if_pos h]
      refine ⟨by dsimp only; rw [h1], fun j hj => ?_⟩
      dsimp only
      rw [h1]
      rcases Nat.lt_or_ge j (h_cn V m N) with q | q
      · obtain ⟨s, s1, s2, s3, s4⟩ := h2 j q
        exact ⟨s, by omega, s2, s3, by rw [pk_un (by omega)]; exact s4⟩
      · have : j = h_cn V m N := by omega
        subst this
        exact ⟨N, by omega, h, rfl, pk_us⟩
    · rw [if_neg h, if_neg h]
      refine ⟨h1, fun j hj => ?_⟩
      obtain ⟨s, s1, s2, s3, s4⟩ := h2 j (by omega)
      exact ⟨s, by omega, s2, s3, s4⟩
theorem ct_cn (V : Nat → Int32) (m : Int32) : ∀ N, fd (h_ct V m) 0 N = nI (h_cn V m N)
  | 0 => rfl
  | N + 1 => by
    rw [fd, ct_cn V m N, h_ct, h_cn_s, ← nI_add]
    congr 1
    split <;> rfl
theorem b_best {k : Nat} {wc wm : ix_W} (R : Rel k wc wm) (x : Int32) : Both k m_X4_best m_X5_best [.inl x] wc wm := by
  obtain ⟨n, c, tb, tl, se, on, dd, ch, tn, ro, ot, ow, tr, tu, ld, lc, cc, br, bw, fs, fo, cm, ce, li, ke, be, rfl, rfl, I⟩ := R
  obtain ⟨hn1, hn, ht⟩ := I.1
  by_cases h : inw x 0 1000 = true
  · refine ⟨_, _, _, c_best hn ht h, Cl.eq (m_best hn ht x) rfl ?_, Rel.mk' I.up⟩
    rw [if_pos h, low_congr (fun s hs => row_eq I.2.1 hn c tl se on ro x hs)]
  · refine ⟨_, _, _, c_best_no (inw_no h), Cl.eq (m_best hn ht x) rfl ?_, Rel.mk' I.up⟩
    rw [if_neg h]
theorem b_many {k : Nat} {wc wm : ix_W} (R : Rel k wc wm) (x : Int32) : Both k m_X4_many m_X5_many [.inl x] wc wm := by
  obtain ⟨n, c, tb, tl, se, on, dd, ch, tn, ro, ot, ow, tr, tu, ld, lc, cc, br, bw, fs, fo, cm, ce, li, ke, be, rfl, rfl, I⟩ := R
  obtain ⟨hn1, hn, ht⟩ := I.1
  by_cases h : inw x 0 1000 = true
  · refine ⟨_, _, _, c_many hn ht h, Cl.eq (m_many hn ht h) rfl ?_, Rel.mk' I.up⟩
    have e := low_congr (fun s hs => row_eq I.2.1 hn c tl se on ro x hs)
    rw [g_lst, e, (li_cn (V := h_wd n c tb tl se on x) (m := g_low n (h_wd n c tb tl se on x)) ot (fun s hs => row_eq I.2.1 hn c tl se on ro x hs)).1, ct_cn]
  · exact ⟨_, _, _, c_many_no (inw_no h), m_many_no (inw_no h), Rel.mk' I.up⟩
theorem b_bestAt {k : Nat} {wc wm : ix_W} (R : Rel k wc wm) (x y : Int32) : Both k m_X4_bestAt m_X5_bestAt [.inl x, .inl y] wc wm := by
  obtain ⟨n, c, tb, tl, se, on, dd, ch, tn, ro, ot, ow, tr, tu, ld, lc, cc, br, bw, fs, fo, cm, ce, li, ke, be, rfl, rfl, I⟩ := R
  obtain ⟨hn1, hn, ht⟩ := I.1
  have hp := (pw_le hn).1
  by_cases h : inw x 0 1000 = true
  · have e := low_congr (fun s hs => row_eq I.2.1 hn c tl se on ro x hs)
    obtain ⟨l1, l2⟩ := li_cn (V := h_wd n c tb tl se on x) (m := g_low n (h_wd n c tb tl se on x)) ot (fun s hs => row_eq I.2.1 hn c tl se on ro x hs)
    have hC := c_bestAt (c := c) (tb := tb) (tn := tn) (se := se) (on := on) (dd := dd) (ch := ch) (ro := ro) (ot := ot) (ow := ow) (tr := tr) (tu := tu) (ld := ld) (lc := lc) (cc := cc) (br := br) (bw := bw) hn ht y h
    rw [g_lst, e, l1] at hC
    have hcn : h_cn (h_wd n c tb tl se on x) (g_low n (h_wd n c tb tl se on x)) (2 ^ n) ≤ 2 ^ n := fb_ct_le _ _
    by_cases h0 : 0 ≤ y
    · obtain ⟨a, ha, rfl⟩ := nI_of (x := y) (i32_nlt.mpr h0)
      rcases Nat.lt_or_ge a (h_cn (h_wd n c tb tl se on x) (g_low n (h_wd n c tb tl se on x)) (2 ^ n)) with q | q
      · obtain ⟨s, s1, s2, s3, s4⟩ := l2 a q
        rw [if_pos (inw_to (by omega) q), nI_clamp ha, s4] at hC
        exact ⟨_, _, _, hC, m_bestAt hn ht ha h s1 s2 s3, Rel.mk' I.up⟩
      · rw [if_neg (fun z => by
          obtain ⟨b, hb, e2⟩ := inw_of (by omega) z
          have := (nI_eq ha (by omega)).mp e2
          omega)] at hC
        exact ⟨_, _, _, hC, m_bestAt_miss hn ht ha h q, Rel.mk' I.up⟩
    · rw [if_neg (fun z => h0 (of_decide_eq_true z).1)] at hC
      exact ⟨_, _, _, hC, m_bestAt_no (Or.inr h0), Rel.mk' I.up⟩
  · exact ⟨_, _, _, c_bestAt_no y (inw_no h), m_bestAt_no (Or.inl (inw_no h)), Rel.mk' I.up⟩
