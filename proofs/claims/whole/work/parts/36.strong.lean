/-! strong -/
theorem hon_sm (n : Nat) (c : Int32) (tb li : Nat → Int32) (x : Int32) : h_on n c tb li x = c + sm (fun i => sm (h_ov tb li x i) (i + 1)) n := by
  rw [h_on, ← fd_sm]
  apply fd_congr
  intro i a _
  rw [h_or, show h_oi tb li x i = fun j a => a + h_ov tb li x i j from rfl, fd_sm]
theorem lr_at {tb : Nat → Int32} (l0 : Nat → Nat) (lf lt : Nat → Nat → Nat) (f : Nat → Int32) : ∀ {N : Nat}, N ≤ 8 → ∀ i j, j ≤ i → i < N → fd (h_lr tb l0 lf lt) f N (8 * i + j) = h_lv tb l0 lf lt i j
  | 0, _, i, j, _, h => absurd h (by omega)
  | N + 1, hN, i, j, hji, hi => by
    have row : ∀ M, M ≤ 8 → ∀ g : Nat → Int32, fd (h_li tb l0 lf lt N) g M (8 * i + j) = if i = N ∧ j < M then h_lv tb l0 lf lt N j else g (8 * i + j) := by
      intro M
      induction M with
      | zero => intro _ g; rw [fd, if_neg (by omega)]
      | succ M ih =>
        intro hM g
        rw [fd, h_li, upd_ij _ _ (by omega) (by omega), ih (by omega)]
        by_cases h : i = N ∧ j = M
        · rw [if_pos h, if_pos (by omega), h.2]
        · rw [if_neg h]
          by_cases h2 : i = N ∧ j < M
          · rw [if_pos h2, if_pos (by omega)]
          · rw [if_neg h2, if_neg (by omega)]
    rw [fd, h_lr, row (N + 1) (by omega)]
    by_cases h : i = N
    · rw [if_pos (by omega), h]
    · rw [if_neg (by omega)]
      exact lr_at l0 lf lt f (N := N) (by omega) i j hji (by omega)
theorem and_two (x : Nat) {a b : Nat} : x &&& (2 ^ a ||| 2 ^ b) = 2 ^ a ||| 2 ^ b ↔ (x.testBit a = true ∧ x.testBit b = true) := by
  constructor
  · intro h
    have h1 : (x &&& (2 ^ a ||| 2 ^ b)).testBit a = true := by rw [h, Nat.testBit_or, Nat.testBit_two_pow, decide_eq_true rfl]; rfl
    have h2 : (x &&& (2 ^ a ||| 2 ^ b)).testBit b = true := by rw [h, Nat.testBit_or, Nat.testBit_two_pow, Nat.testBit_two_pow, decide_eq_true (rfl : b = b), Bool.or_true]
    rw [Nat.testBit_and, Bool.and_eq_true] at h1 h2
    exact ⟨h1.1, h2.1⟩
  · rintro ⟨h1, h2⟩
    apply Nat.eq_of_testBit_eq
    intro j
    rw [Nat.testBit_and, Nat.testBit_or, Nat.testBit_two_pow, Nat.testBit_two_pow]
    by_cases e1 : a = j
    · subst e1; rw [h1]; rfl
    · by_cases e2 : b = j
      · subst e2; rw [h2]; simp
      · rw [decide_eq_false e1, decide_eq_false e2]; simp
theorem ov_n {n : Nat} {tb ch : Nat → Int32} {dd : Int32} {mm : Nat → Nat} (hn : n ≤ 8) (hm : ∀ i, i < n → ch i = nI (mm i) ∧ mm i < 2 ^ 20) (h : h_ff n tb ch dd mm = 0) (hsym : ∀ i j, i < 8 → j < 8 → tb (8 * i + j) = tb (8 * j + i)) (f : Nat → Int32) {x : Nat} (hx : x < 2 ^ 20) {i j : Nat} (hji : j ≤ i) (hi : i < n) : h_ov tb (fd (h_lr tb (fun i => lowb (mm i)) (lkf mm) (lkt mm)) f n) (nI x) i j = if j = i then OO tb mm x i else QQ tb mm x j i := by
  rw [h_ov, lr_at _ _ _ f hn i j hji hi, h_lv]
  by_cases e : i = j
  · subst e
    have hpos := st_pos hm h i hi
    have hlt := lowb_lt hpos (hm i hi).2 (by omega)
    have hp2 : 2 ^ lowb (mm i) < 2 ^ 20 := Nat.pow_lt_pow_right (by omega) hlt
    have hp3 := Nat.two_pow_pos (lowb (mm i))
    rw [if_pos rfl, if_pos rfl, sh1_n hlt, OO, fa_and]
    have hl : x &&& 2 ^ lowb (mm i) ≤ x := Nat.and_le_left
    have := and_two x (a := lowb (mm i)) (b := lowb (mm i))
    rw [Nat.or_self] at this
    by_cases q : x.testBit (lowb (mm i)) = true
    · rw [if_pos q, if_pos ⟨nI_ne0 hp3 (by omega), by rw [this.mpr ⟨q, q⟩]⟩]
    · rw [if_neg q, if_neg (fun z => q (this.mp ((nI_eq (by omega) (by omega)).mp z.2)).1)]
  · rw [if_neg e, if_neg (show ¬ j = i from fun z => e z.symm), QQ, hsym j i (by omega) (by omega)]
    by_cases ht : tb (8 * i + j) = 0
    · rw [if_pos ht, if_neg (fun z => z.1 rfl), if_neg (fun z => z.1 ht)]
    · obtain ⟨k1, k2, -, -, -, -⟩ := lk_all hm h (a := j) (b := i) (by omega) hi ht
      have hp1 : 2 ^ lkf mm j i < 2 ^ 20 := Nat.pow_lt_pow_right (by omega) k1
      have hp2 : 2 ^ lkt mm j i < 2 ^ 20 := Nat.pow_lt_pow_right (by omega) k2
      have hp3 := Nat.two_pow_pos (lkf mm j i)
      have hor : 2 ^ lkf mm j i ||| 2 ^ lkt mm j i < 2 ^ 20 := Nat.or_lt_two_pow hp1 hp2
      have hor2 : 2 ^ lkf mm j i ≤ 2 ^ lkf mm j i ||| 2 ^ lkt mm j i := Nat.left_le_or
      rw [if_neg ht, sh1_n k1, sh1_n k2, fa_or, fa_and]
      have hl : x &&& (2 ^ lkf mm j i ||| 2 ^ lkt mm j i) ≤ x := Nat.and_le_left
      have := and_two x (a := lkf mm j i) (b := lkt mm j i)
      by_cases q : x.testBit (lkf mm j i) = true ∧ x.testBit (lkt mm j i) = true
      · rw [if_pos ⟨nI_ne0 (by omega) (by omega), by rw [this.mpr q]⟩, if_pos ⟨ht, q⟩]
      · rw [if_neg (fun z => q (this.mp ((nI_eq (by omega) (by omega)).mp z.2))), if_neg (fun z => q z.2)]
theorem on_EC {n : Nat} {tb ch : Nat → Int32} {dd : Int32} {mm : Nat → Nat} (hn : n ≤ 8) (hm : ∀ i, i < n → ch i = nI (mm i) ∧ mm i < 2 ^ 20) (h : h_ff n tb ch dd mm = 0) (hsym : ∀ i j, i < 8 → j < 8 → tb (8 * i + j) = tb (8 * j + i)) (f : Nat → Int32) (c : Int32) {x : Nat} (hx : x < 2 ^ 20) : h_on n c tb (fd (h_lr tb (fun i => lowb (mm i)) (lkf mm) (lkt mm)) f n) (nI x) = c + sm (fun i => OO tb mm x i + sm (fun d => QQ tb mm x i (i + 1 + d)) (n - (i + 1))) n := by
  rw [hon_sm, sm_add (OO tb mm x) (fun i => sm (fun d => QQ tb mm x i (i + 1 + d)) (n - (i + 1))), tri (QQ tb mm x), ← sm_add]
  congr 1
  apply sm_congr
  intro i hi
  rw [sm, ov_n hn hm h hsym f hx (Nat.le_refl i) hi, if_pos rfl, sm_congr (g := fun j => QQ tb mm x j i) (fun j hj => by rw [ov_n hn hm h hsym f hx (by omega) hi, if_neg (by omega)])]
  grind
theorem tri_bd {V : Nat → Nat → Int32} {B : Int} (hB : 0 ≤ B) (hB2 : B ≤ 1000000) {n : Nat} (hn : n ≤ 8) (hv : ∀ i j, j ≤ i → i < n → -B ≤ (V i j).toInt ∧ (V i j).toInt ≤ B) : -(36 * B) ≤ (sm (fun i => sm (V i) (i + 1)) n).toInt ∧ (sm (fun i => sm (V i) (i + 1)) n).toInt ≤ 36 * B := by
  have hr : ∀ i, i < n → -(((i + 1 : Nat) : Int) * B) ≤ (sm (V i) (i + 1)).toInt ∧ (sm (V i) (i + 1)).toInt ≤ ((i + 1 : Nat) : Int) * B := fun i hi => by
    refine sm_bd hB (fun j hj => hv i j (by omega) hi) ?_
    have : ((i + 1 : Nat) : Int) * B ≤ 8 * B := Int.mul_le_mul_of_nonneg_right (by omega) hB
    omega
  have h : ∀ m, m ≤ n → -(((m * (m + 1) / 2 : Nat) : Int) * B) ≤ (sm (fun i => sm (V i) (i + 1)) m).toInt ∧ (sm (fun i => sm (V i) (i + 1)) m).toInt ≤ ((m * (m + 1) / 2 : Nat) : Int) * B := by
    intro m
    induction m with
    | zero => intro _; rw [sm, ti_0]; simp
    | succ m ih =>
      intro hm
      obtain ⟨h1, h2⟩ := ih (by omega)
      obtain ⟨h3, h4⟩ := hr m (by omega)
      have e : (((m + 1) * (m + 1 + 1) / 2 : Nat) : Int) * B = ((m * (m + 1) / 2 : Nat) : Int) * B + ((m + 1 : Nat) : Int) * B := by
        rw [← Int.add_mul, ← Int.natCast_add]
        congr 2
        have : (m + 1) * (m + 1 + 1) = m * (m + 1) + 2 * (m + 1) := by grind
        omega
      have l1 : ((m * (m + 1) / 2 : Nat) : Int) * B ≤ 36 * B := Int.mul_le_mul_of_nonneg_right (by
        have : m * (m + 1) ≤ 7 * 8 := Nat.mul_le_mul (by omega) (by omega)
        omega) hB
      have l2 : ((m + 1 : Nat) : Int) * B ≤ 8 * B := Int.mul_le_mul_of_nonneg_right (by omega) hB
      rw [e, sm, ti_add (by omega) (by omega)]
      omega
  obtain ⟨h1, h2⟩ := h n (Nat.le_refl n)
  have l1 : ((n * (n + 1) / 2 : Nat) : Int) * B ≤ 36 * B := Int.mul_le_mul_of_nonneg_right (by
    have : n * (n + 1) ≤ 8 * 9 := Nat.mul_le_mul (by omega) (by omega)
    omega) hB
  omega
theorem low_mem {n : Nat} (R : Nat → Int32) : ∃ s, g_low n R = R s := by
  unfold g_low
  have : ∀ N, ∃ s, fd (g_mn R) (R 0) N = R s := by
    intro N
    induction N with
    | zero => exact ⟨0, rfl⟩
    | succ N ih =>
      obtain ⟨s, e⟩ := ih
      rw [fd, e, g_mn, imin]
      split
      · exact ⟨_, rfl⟩
      · exact ⟨_, rfl⟩
  exact this _
theorem ite_swap {α : Type} {a b : Prop} [Decidable a] [Decidable b] (x y : α) : (if a ∧ b then x else y) = if b ∧ a then x else y := by
  by_cases h : a ∧ b
  · rw [if_pos h, if_pos h.symm]
  · rw [if_neg h, if_neg (fun z => h z.symm)]
def sf (best c : Int32) (G : Nat → Int32) (mm : Nat → Nat) (n A s : Nat) : Nat := pv (best.toInt - (c + G (X A s)).toInt) (UN mm n (X A s))
theorem sm_model {n : Nat} {tb ch : Nat → Int32} {mm : Nat → Nat} {c best : Int32} {G : Nat → Int32} {li ce : Nat → Int32} {A : Nat} (hA : A < 2 ^ 20) (hm : ∀ i, i < n → ch i = nI (mm i) ∧ mm i < 2 ^ 20) (hd : ∀ i j, i < n → j < n → i ≠ j → ∀ q, (mm i).testBit q = true → (mm j).testBit q = false) (hce : ∀ k, k < bc1 A 20 → ce k = nI (kth A k)) (hG : ∀ x, x < 2 ^ 20 → h_on n c tb li (nI x) = c + G x) (hB : ∀ x, x < 2 ^ 20 → -1000000 ≤ best.toInt - (c + G x).toInt ∧ best.toInt - (c + G x).toInt ≤ 1000000) : ∀ S, fd (h_sm n c tb li ch ce (bc1 A 20) best) 0 S = nI (mx (sf best c G mm n A) S) ∧ mx (sf best c G mm n A) S ≤ 1000001
  | 0 => ⟨rfl, Nat.zero_le _⟩
  | S + 1 => by
    obtain ⟨e, hl⟩ := sm_model hA hm hd hce hG hB S
    have hx := X_lt hA S
    obtain ⟨b1, b2⟩ := hB _ hx
    refine ⟨?_, ?_⟩
    · rw [fd, e, h_sm, sx_n A hce, hG _ hx, un_h _ hm hd, ite_swap]
      have hu := UN_le mm n (X A S)
      exact pv_h rfl b1 b2 (by omega) hl
    · rw [mx]
      exact Nat.max_le.mpr ⟨hl, pv_le (B := 1000000) b2 _⟩
theorem sm_class {n : Nat} (hn : n ≤ 8) {ch : Nat → Int32} {mm : Nat → Nat} {c best : Int32} {ow tr tu : Nat → Int32} {A : Nat} (hA : A < 2 ^ 20) (hN : bc1 A 20 ≤ 14) (hm : ∀ i, i < 8 → ch i = nI (mm i) ∧ mm i < 2 ^ 20) (hz : ∀ i, n ≤ i → i < 8 → mm i = 0) (hB : ∀ x, x < 2 ^ 20 → -1000000 ≤ best.toInt - (c + EC ow tr tu x).toInt ∧ best.toInt - (c + EC ow tr tu x).toInt ≤ 1000000) (hC : ∀ x, x < 2 ^ 20 → -100000000 ≤ (c + EC ow tr tu x).toInt ∧ (c + EC ow tr tu x).toInt ≤ 100000000) : ∀ {T : Nat}, T < 2 ^ bc1 A 20 → fd (g_h ow tr tu (kth A) (fd (g_bri ch) 0 8) (fd (g_bbe ch) 0 8) best) (0, 0, c) T = (nI (mx (fun t => sf best c (EC ow tr tu) mm n A (gray t)) (T + 1)), nI (X A (gray T)), c + EC ow tr tu (X A (gray T))) ∧ mx (fun t => sf best c (EC ow tr tu) mm n A (gray t)) (T + 1) ≤ 1000001
  | 0, _ => by
    have e0 : X A (gray 0) = 0 := by
      apply Nat.eq_of_testBit_eq
      intro j
      rw [X_b hA, show gray 0 = 0 by decide, Nat.zero_testBit, Nat.zero_testBit, Bool.and_false]
    have eC : EC ow tr tu 0 = 0 := by
      rw [EC, sm_zero (fun q hq => by rw [eo, Nat.zero_testBit, if_neg (by decide)]), sm_zero (fun q hq => by rw [ee, Nat.zero_testBit, if_neg (fun z => absurd z.1 (by decide))]), sm_zero (fun q hq => by rw [ee, Nat.zero_testBit, if_neg (fun z => absurd z.1 (by decide))])]
      rfl
    have e1 : mx (fun t => sf best c (EC ow tr tu) mm n A (gray t)) (0 + 1) = 0 := by
      rw [mx, mx, sf, e0, UN_zero, pv, if_neg (by omega)]
      rfl
    rw [fd, e1, e0, eC, Int32.add_zero]
    exact ⟨rfl, Nat.zero_le _⟩
  | T + 1, hT => by
    obtain ⟨e, hl⟩ := sm_class hn hA hN hm hz hB hC (T := T) (by omega)
    have hp : 2 ^ bc1 A 20 ≤ 2 ^ 14 := Nat.pow_le_pow_right (by omega) hN
    have hk := lowb_lt (m := T + 1) (by omega) hT (by omega)
    obtain ⟨k1, -, -⟩ := kth_all hk
    have eX : X A (gray (T + 1)) = X A (gray T) ^^^ 2 ^ kth A (lowb (T + 1)) := by rw [gray_step (by omega), X_flip hA _ hk]
    have hx := X_lt hA (gray (T + 1))
    have hu := UN_le mm n (X A (gray (T + 1)))
    have hmx : mx (fun t => sf best c (EC ow tr tu) mm n A (gray t)) (T + 1 + 1) = max (mx (fun t => sf best c (EC ow tr tu) mm n A (gray t)) (T + 1)) (sf best c (EC ow tr tu) mm n A (gray (T + 1))) := rfl
    rw [hmx]
    generalize mx (fun t => sf best c (EC ow tr tu) mm n A (gray t)) (T + 1) = M at e hl
    rw [fd, e, g_h]
    dsimp only
    rw [sh1_n k1, fa_xor, hg_eq ow tr tu c k1, ← eX, un_g hn hx hm hz, g_hh]
    refine ⟨?_, Nat.max_le.mpr ⟨hl, pv_le (B := 1000000) (hB _ hx).2 _⟩⟩
    rw [pv_g rfl (hB _ hx).1 (hB _ hx).2 (by omega) hl (hC _ hx).1 (hC _ hx).2]
    rfl
theorem b_strong {k : Nat} (hk : k ≤ 512) {wc wm : ix_W} (R : Rel k wc wm) : Both k m_X4_strong m_X5_strong [] wc wm := by
  obtain ⟨n, c, tb, tl, se, on, dd, ch, tn, ro, ot, ow, tr, tu, ld, lc, cc, br, bw, fs, fo, cm, ce, li, ke, be, rfl, rfl, I⟩ := R
  have I0 := I
  obtain ⟨⟨hn1, hn, ht⟩, i2, i3, i4, i5, i6, i7, ⟨mm, hm, hz⟩⟩ := I
  have hm1 : ∀ i, i < n → ch i = nI (mm i) ∧ mm i < 2 ^ 20 := fun i hi => hm i (by omega)
  have hm2 : ∀ i, i < n → ch i = nI (mm i) ∧ mm i < 2 ^ 31 := fun i hi => ⟨(hm1 i hi).1, by have := (hm1 i hi).2; omega⟩
  have hff := ff_eq hn tb dd hm hz
  by_cases h : g_ff n tb ch dd = 0
  · have h' : h_ff n tb ch dd mm = 0 := hff ▸ h
    have hpos := st_pos hm1 h'
    obtain ⟨hd, hN⟩ := st_disj hn hm1 h'
    have hA : orn mm n < 2 ^ 20 := orn_lt (fun i hi => (hm1 i hi).2)
    have hall : fd (g_all ch) 0 n = nI (orn mm n) := all_orn (fun i hi => (hm1 i hi).1)
    have hall8 : fd (g_all ch) 0 8 = nI (orn mm n) := by rw [all_eq hn (ch := ch) (fun i h1 h2 => by rw [(hm i h2).1, hz i h1 h2]; rfl), hall]
    generalize hAe : orn mm n = A at hN hA hall hall8
    obtain ⟨lg1, lg2⟩ := lc_g A ld hN (Nat.le_refl 20)
    obtain ⟨lh1, lh2⟩ := lc_h A ce (Nat.le_refl 20)
    have h0 : ∀ i, i < n → itz (ch i) = nI (lowb (mm i)) ∧ lowb (mm i) < 20 := fun i hi => ⟨by rw [(hm1 i hi).1, itz_low (hpos i hi) (hm2 i hi).2], lowb_lt (hpos i hi) (hm1 i hi).2 (by omega)⟩
    have h1 : ∀ i j, i < j → j < n → ¬ tb (8 * i + j) = 0 → itz (ch i &&& g_nb (ch j)) = nI (lkf mm i j) ∧ lkf mm i j < 20 ∧ itz (ch j &&& g_nb ((1 : Int32) <<< (nI (lkf mm i j) &&& 31))) = nI (lkt mm i j) ∧ lkt mm i j < 20 := fun i j hij hj htb => by
      have htb2 : ¬ tb (8 * j + i) = 0 := by rw [i2 j i (by omega) (by omega)]; exact htb
      obtain ⟨k1, k2, -, -, -, k6⟩ := lk_all hm1 h' hij hj htb2
      have p1 := st_link hm1 h' hij hj htb2
      obtain ⟨e1, e2⟩ := hm1 i (by omega)
      obtain ⟨e3, e4⟩ := hm1 j hj
      have q1 : mm i &&& nbn (mm j) ≤ mm i := Nat.and_le_left
      have q2 : mm j &&& nbn (2 ^ lkf mm i j) ≤ mm j := Nat.and_le_left
      refine ⟨by rw [e1, e3, nb_n e4, fa_and, itz_low p1 (by omega)]; rfl, k1, ?_, k2⟩
      rw [sh1_n k1, e3, nb_n (Nat.pow_lt_pow_right (by omega) k1), fa_and, itz_low k6 (by omega)]
      rfl
    have hcl : ∀ j, j < (fd (g_lc (fd (g_all ch) 0 8)) (ld, 0) 20).2 → (fd (g_lc (fd (g_all ch) 0 8)) (ld, 0) 20).1 j = nI (kth A j) ∧ kth A j < 20 := fun j hj => by
      rw [hall8] at hj ⊢
      rw [lg1] at hj
      obtain ⟨i, z1, z2, z3, z4⟩ := lg2 j hj
      rw [kth_of z1 z2 z3]
      exact ⟨z4, z1⟩
    have hC := c_strong (c := c) (tn := tn) (tl := tl) (se := se) (on := on) (ro := ro) (ot := ot) (ow := ow) (tr := tr) (tu := tu) (lc := lc) (cc := cc) (br := br) (bw := bw) hn h h0 h1 hcl
    have hce : ∀ k, k < bc1 A 20 → (fd (h_lc (nI A)) (ce, 0) 20).1 k = nI (kth A k) := fun j hj => by
      obtain ⟨i, z1, z2, z3, z4⟩ := lh2 j hj
      rw [kth_of z1 z2 z3]
      exact z4
    have hL := m_layGrid (c := c) (tb := tb) (tl := tl) (se := se) (on := on) (dd := dd) (ch := ch) (fs := fs) (fo := fo) (cm := cm) (ce := ce) (li := li) (ke := ke) (be := be) hn (by rw [hall, lh1]; exact hN) (l0 := fun i => lowb (mm i)) (lf := lkf mm) (lt := lkt mm) (fun i hi w => by rw [(hm1 i hi).1]; exact m_firstOf (hpos i hi) (hm2 i hi).2 w) (fun i j hji hi htb cm2 ce2 li2 => by
      obtain ⟨k1, k2, -, -, -, k6⟩ := lk_all hm1 h' hji hi htb
      have p1 := st_link hm1 h' hji hi htb
      obtain ⟨e1, e2⟩ := hm1 j (by omega)
      obtain ⟨e3, e4⟩ := hm1 i hi
      have q1 : mm j &&& nbn (mm i) ≤ mm j := Nat.and_le_left
      have q2 : mm i &&& nbn (2 ^ lkf mm j i) ≤ mm i := Nat.and_le_left
      have f1 : h_be (ch i) &&& ch j = nI (mm j &&& nbn (mm i)) := by rw [e1, e3, be_n, fa_and, Nat.and_comm]
      have f2 : h_be ((1 : Int32) <<< (nI (lowb (mm j &&& nbn (mm i))) &&& 31)) &&& ch i = nI (mm i &&& nbn (2 ^ lkf mm j i)) := by
        rw [show lowb (mm j &&& nbn (mm i)) = lkf mm j i from rfl, sh1_n k1, e3, be_n, fa_and, Nat.and_comm]
      exact ⟨m_linkOf0 (by omega) (by omega) f1 p1 (by omega), m_linkOf1 (x := 1) (by decide) (by omega) (by omega) f1 p1 (by omega) f2 k6 (by omega)⟩)
    rw [hall, lh1] at hL
    have hM := m_strong hn hm2 h' hN hL
    rw [hall8, lg1] at hC
    obtain ⟨own, ho⟩ := own_ex hn hd
    obtain ⟨-, -, hEC⟩ := lay_all hn i2 hm1 h' ho (p0 := (fd zf ow 20, fd zf tr 20, fd zf tu 20)) (fun q hq => by show fd (fun j f => upd f j 0) ow 20 q = 0; rw [zero_fill, if_pos hq]) (fun q hq => by show fd (fun j f => upd f j 0) tr 20 q = 0; rw [zero_fill, if_pos hq]) (fun q hq => by show fd (fun j f => upd f j 0) tu 20 q = 0; rw [zero_fill, if_pos hq]) (Nat.le_refl n)
    generalize fd (g_oo n tb (fun i => lowb (mm i)) (lkf mm) (lkt mm)) (fd zf ow 20, fd zf tr 20, fd zf tu 20) n = P at hC hEC
    have hbest : g_low n (g_fill n c tb ro) = g_low n (h_E n c tb) := low_congr (fun s hs => fill_eq i2 hn c ro hs)
    rw [hbest] at hC
    obtain ⟨s0, hs0⟩ := low_mem (n := n) (h_E n c tb)
    have hb0 := en_bd (c := c) hk hn i4 i5 s0
    generalize g_low n (h_E n c tb) = best at hC hM hs0
    have hG : ∀ x, x < 2 ^ 20 → h_on n c tb (fd (h_lr tb (fun i => lowb (mm i)) (lkf mm) (lkt mm)) li n) (nI x) = c + EC P.1 P.2.1 P.2.2 x := fun x hx => by
      rw [hEC x, on_EC hn hm1 h' i2 li c hx]
    have hbd : ∀ x, x < 2 ^ 20 → -186480 ≤ (EC P.1 P.2.1 P.2.2 x).toInt ∧ (EC P.1 P.2.1 P.2.2 x).toInt ≤ 186480 := fun x hx => by
      have e1 := hG x hx
      rw [hon_sm] at e1
      have e2 : sm (fun i => sm (h_ov tb (fd (h_lr tb (fun i => lowb (mm i)) (lkf mm) (lkt mm)) li n) (nI x) i) (i + 1)) n = EC P.1 P.2.1 P.2.2 x := by grind
      rw [← e2]
      have := tri_bd (V := h_ov tb (fd (h_lr tb (fun i => lowb (mm i)) (lkf mm) (lkt mm)) li n) (nI x)) (B := 60 + 10 * (k : Int)) (by omega) (by omega) hn (fun i j hji hi => by
        rw [h_ov]
        split
        · exact i4 _ (by omega)
        · rw [ti_0]; omega)
      omega
    have hcE : ∀ x, x < 2 ^ 20 → (c + EC P.1 P.2.1 P.2.2 x).toInt = c.toInt + (EC P.1 P.2.1 P.2.2 x).toInt := fun x hx => by
      have := hbd x hx
      rw [ti_add (by omega) (by omega)]
    have hbt : best.toInt = c.toInt + (enb n tb (fun i => s0.testBit i)).toInt := by rw [hs0]; exact hb0.1
    have hB : ∀ x, x < 2 ^ 20 → -1000000 ≤ best.toInt - (c + EC P.1 P.2.1 P.2.2 x).toInt ∧ best.toInt - (c + EC P.1 P.2.1 P.2.2 x).toInt ≤ 1000000 := fun x hx => by
      have := hbd x hx
      rw [hcE x hx]
      omega
    have hCC : ∀ x, x < 2 ^ 20 → -100000000 ≤ (c + EC P.1 P.2.1 P.2.2 x).toInt ∧ (c + EC P.1 P.2.1 P.2.2 x).toInt ≤ 100000000 := fun x hx => by
      have := hbd x hx
      rw [hcE x hx]
      omega
    have hp := Nat.two_pow_pos (bc1 A 20)
    have r1 := (sm_model (G := EC P.1 P.2.1 P.2.2) hA hm1 hd hce hG hB (2 ^ bc1 A 20)).1
    have r2 := (sm_class (ow := P.1) (tr := P.2.1) (tu := P.2.2) hn hA hN hm hz hB hCC (T := 2 ^ bc1 A 20 - 1) (by omega)).1
    rw [show 2 ^ bc1 A 20 - 1 + 1 = 2 ^ bc1 A 20 by omega, mx_gray (sf best c (EC P.1 P.2.1 P.2.2) mm n A)] at r2
    rw [r1] at hM
    rw [r2] at hC
    exact ⟨_, _, _, hC, hM, Rel.mk' I0.up⟩
  · exact ⟨_, _, _, c_strong_no hn h, m_strong_no hn hm2 (hff ▸ h), Rel.mk' I0.up⟩
