/-! the grid: neighbours -/
theorem or_and' (x y z : Int32) : (x ||| y) &&& z = (x &&& z) ||| (y &&& z) := by
  apply b_ext
  intro i _
  rw [b_and, b_or, b_or, b_and, b_and, Bool.and_or_distrib_right]
theorem or_shl' {k : Nat} (hk : k < 32) (x y : Int32) : (x ||| y) <<< (nI k &&& 31) = (x <<< (nI k &&& 31)) ||| (y <<< (nI k &&& 31)) := by
  apply b_ext
  intro i hi
  rw [b_or, b_shl k hk _ hi, b_shl k hk _ hi, b_shl k hk _ hi, b_or, Bool.and_or_distrib_left]
theorem or_shr' {k : Nat} (hk : k < 32) (x y : Int32) : (x ||| y) >>> (nI k &&& 31) = (x >>> (nI k &&& 31)) ||| (y >>> (nI k &&& 31)) := by
  apply b_ext
  intro i hi
  rw [b_or, b_sshr k hk _ hi, b_sshr k hk _ hi, b_sshr k hk _ hi, b_or, b_or]
  split <;> rfl
theorem nb_or (x y : Int32) : g_nb (x ||| y) = g_nb x ||| g_nb y := by
  unfold g_nb
  rw [or_and', or_and', show (1 : Int32) = nI 1 from rfl, show (5 : Int32) = nI 5 from rfl, or_shr' (k := 1) (by omega), or_shl' (k := 1) (by omega), or_shr' (k := 5) (by omega), or_shl' (k := 5) (by omega), or_and']
  apply b_ext
  intro i _
  simp only [b_or]
  ac_rfl
def adjm (c : Nat) : Nat := (((if 5 ≤ c then 2 ^ (c - 5) else 0) ||| (if c < 15 then 2 ^ (c + 5) else 0)) ||| (if c % 5 = 0 then 0 else 2 ^ (c - 1))) ||| (if c % 5 = 4 then 0 else 2 ^ (c + 1))
def nbs (m c a : Nat) : Nat := if m.testBit c = true then a ||| adjm c else a
def nbn (m : Nat) : Nat := fd (nbs m) 0 20
theorem adj_tab : ∀ c, c < 20 → g_nb (nI (2 ^ c)) = nI (adjm c) ∧ (((0 ||| h_u1 c) ||| h_u2 c) ||| h_u3 c) ||| h_u4 c = nI (adjm c) ∧ adjm c < 2 ^ 20 := by decide +kernel
theorem adj_sym : ∀ c, c < 20 → ∀ d, d < 20 → (adjm c).testBit d = (adjm d).testBit c := by decide +kernel
theorem zor (x : Int32) : 0 ||| x = x := by
  apply b_ext
  intro i _
  rw [b_or, b_0, Bool.false_or]
theorem mod_or (m N : Nat) : m % 2 ^ (N + 1) = if m.testBit N = true then (m % 2 ^ N) ||| 2 ^ N else m % 2 ^ N := by
  apply Nat.eq_of_testBit_eq
  intro j
  rw [Nat.testBit_mod_two_pow]
  cases h : m.testBit N with
  | true =>
    rw [if_pos rfl, Nat.testBit_or, Nat.testBit_mod_two_pow, Nat.testBit_two_pow]
    by_cases e : N = j
    · subst e; rw [h]; simp
    · rw [decide_eq_false e, Bool.or_false, decide_eq_decide.mpr (show j < N + 1 ↔ j < N by omega)]
  | false =>
    rw [if_neg (by decide), Nat.testBit_mod_two_pow]
    by_cases e : N = j
    · subst e; rw [h]; simp
    · rw [decide_eq_decide.mpr (show j < N + 1 ↔ j < N by omega)]
theorem nb_fold (m : Nat) : ∀ {N : Nat}, N ≤ 20 → g_nb (nI (m % 2 ^ N)) = nI (fd (nbs m) 0 N) ∧ fd (h_bs (nI m)) 0 N = nI (fd (nbs m) 0 N) ∧ fd (nbs m) 0 N < 2 ^ 20
  | 0, _ => by
    rw [Nat.pow_zero, Nat.mod_one, fd, fd]
    exact ⟨by decide, rfl, Nat.two_pow_pos 20⟩
  | N + 1, hN => by
    obtain ⟨h1, h2, h3⟩ := nb_fold m (N := N) (by omega)
    obtain ⟨t1, t2, t3⟩ := adj_tab N (by omega)
    rw [mod_or, fd, fd, nbs, h_bs, bb_nI (by omega)]
    cases m.testBit N with
    | true =>
      rw [if_pos rfl, if_pos rfl, if_pos rfl, ← fa_or, nb_or, h1, t1, fa_or, h2]
      refine ⟨rfl, ?_, Nat.or_lt_two_pow h3 t3⟩
      rw [← fa_or, ← t2, zor]
      apply b_ext
      intro i _
      simp only [b_or]
      ac_rfl
    | false =>
      rw [if_neg (by decide), if_neg (by decide), if_neg (by decide)]
      exact ⟨h1, h2, h3⟩
theorem nb_n {m : Nat} (hm : m < 2 ^ 20) : g_nb (nI m) = nI (nbn m) := by
  have := (nb_fold m (Nat.le_refl 20)).1
  rw [Nat.mod_eq_of_lt hm] at this
  exact this
theorem be_n (m : Nat) : h_be (nI m) = nI (nbn m) := (nb_fold m (Nat.le_refl 20)).2.1
theorem nbn_lt (m : Nat) : nbn m < 2 ^ 20 := (nb_fold m (Nat.le_refl 20)).2.2
theorem nbn_bit (m j : Nat) : (nbn m).testBit j = true ↔ ∃ c, c < 20 ∧ m.testBit c = true ∧ (adjm c).testBit j = true := by
  have : ∀ N, (fd (nbs m) 0 N).testBit j = true ↔ ∃ c, c < N ∧ m.testBit c = true ∧ (adjm c).testBit j = true := by
    intro N
    induction N with
    | zero => rw [fd, Nat.zero_testBit]; exact ⟨fun h => absurd h (by decide), fun ⟨c, h, _⟩ => absurd h (by omega)⟩
    | succ N ih =>
      rw [fd, nbs]
      cases h : m.testBit N with
      | true =>
        rw [if_pos rfl, Nat.testBit_or, Bool.or_eq_true, ih]
        constructor
        · rintro (⟨c, h1, h2, h3⟩ | h1)
          · exact ⟨c, by omega, h2, h3⟩
          · exact ⟨N, by omega, h, h1⟩
        · rintro ⟨c, h1, h2, h3⟩
          by_cases e : c = N
          · subst e; exact Or.inr h3
          · exact Or.inl ⟨c, by omega, h2, h3⟩
      | false =>
        rw [if_neg (by decide), ih]
        constructor
        · rintro ⟨c, h1, h2, h3⟩; exact ⟨c, by omega, h2, h3⟩
        · rintro ⟨c, h1, h2, h3⟩
          refine ⟨c, ?_, h2, h3⟩
          rcases Nat.lt_or_ge c N with z | z
          · exact z
          · have : c = N := by omega
            subst this; rw [h] at h2; exact absurd h2 (by decide)
  exact this 20
theorem lt_bit {m j : Nat} (hm : m < 2 ^ 20) (h : m.testBit j = true) : j < 20 := by
  rcases Nat.lt_or_ge j 20 with z | z
  · exact z
  · have := Nat.testBit_lt_two_pow (Nat.lt_of_lt_of_le hm (Nat.pow_le_pow_right (by omega) z))
    rw [h] at this
    exact absurd this (by decide)
theorem and_pos_iff {a b : Nat} : 0 < a &&& b ↔ ∃ j, a.testBit j = true ∧ b.testBit j = true := by
  constructor
  · intro h
    obtain ⟨j, hj⟩ := Nat.exists_testBit_of_ne_zero (x := a &&& b) (by omega)
    rw [Nat.testBit_and, Bool.and_eq_true] at hj
    exact ⟨j, hj⟩
  · rintro ⟨j, h1, h2⟩
    rcases Nat.eq_zero_or_pos (a &&& b) with e | e
    · have : (a &&& b).testBit j = true := by rw [Nat.testBit_and, h1, h2]; rfl
      rw [e, Nat.zero_testBit] at this
      exact absurd this (by decide)
    · exact e
theorem nb_sym {a b : Nat} (ha : a < 2 ^ 20) (hb : b < 2 ^ 20) (h : 0 < a &&& nbn b) : 0 < b &&& nbn a := by
  obtain ⟨j, h1, h2⟩ := and_pos_iff.mp h
  obtain ⟨c, c1, c2, c3⟩ := (nbn_bit b j).mp h2
  have hj := lt_bit ha h1
  exact and_pos_iff.mpr ⟨c, c2, (nbn_bit a c).mpr ⟨j, hj, h1, by rw [adj_sym j hj c c1]; exact c3⟩⟩
theorem ht_eq {m : Nat} (h0 : 0 < m) (hm : m < 2 ^ 20) : g_ht (nI m) = h_ht m := by
  have hl := lowb_lt h0 hm (by omega)
  have key : ∀ N, ∃ r, r < 2 ^ 20 ∧ fd (g_hs (nI m)) (nI (2 ^ lowb m)) N = nI r ∧ fd (h_hs (nI m)) (nI (2 ^ lowb m)) N = nI r := by
    intro N
    induction N with
    | zero => exact ⟨2 ^ lowb m, Nat.pow_lt_pow_right (by omega) hl, rfl, rfl⟩
    | succ N ih =>
      obtain ⟨r, hr, e1, e2⟩ := ih
      rw [fd, fd, e1, e2, g_hs, h_hs, nb_n hr, be_n, fa_and, fa_and, fa_or, fa_or, Nat.and_comm m]
      exact ⟨_, Nat.or_lt_two_pow hr (Nat.lt_of_le_of_lt Nat.and_le_right hm), rfl, rfl⟩
  obtain ⟨r, -, e1, e2⟩ := key 20
  rw [g_ht, h_ht, low_bit h0 (by omega), sh1_n hl, e1, e2]
theorem all_n {ch : Nat → Int32} {mm : Nat → Nat} : ∀ {n : Nat}, (∀ i, i < n → ch i = nI (mm i) ∧ mm i < 2 ^ 20) → ∃ A, A < 2 ^ 20 ∧ fd (g_all ch) 0 n = nI A ∧ ∀ j, A.testBit j = true ↔ ∃ i, i < n ∧ (mm i).testBit j = true
  | 0, _ => ⟨0, Nat.two_pow_pos 20, rfl, fun j => ⟨fun h => by rw [Nat.zero_testBit] at h; exact absurd h (by decide), fun ⟨_, h, _⟩ => absurd h (by omega)⟩⟩
  | n + 1, h => by
    obtain ⟨A, h1, h2, h3⟩ := all_n (n := n) (fun i hi => h i (by omega))
    obtain ⟨e, hl⟩ := h n (by omega)
    refine ⟨A ||| mm n, Nat.or_lt_two_pow h1 hl, by rw [fd, h2, g_all, e, fa_or], fun j => ?_⟩
    rw [Nat.testBit_or, Bool.or_eq_true, h3]
    constructor
    · rintro (⟨i, i1, i2⟩ | i1)
      · exact ⟨i, by omega, i2⟩
      · exact ⟨n, by omega, i1⟩
    · rintro ⟨i, i1, i2⟩
      by_cases e : i = n
      · subst e; exact Or.inr i2
      · exact Or.inl ⟨i, by omega, i2⟩
theorem anyB_congr {p q : Nat → Bool} {n : Nat} (h : ∀ i, i < n → p i = q i) : anyB p n = anyB q n := by
  cases e : anyB q n with
  | true =>
    obtain ⟨i, h1, h2⟩ := anyB_ex.mp e
    exact anyB_t h1 (by rw [h i h1]; exact h2)
  | false =>
    refine anyB_f (fun i hi => ?_)
    rw [h i hi]
    cases z : q i with
    | false => rfl
    | true => rw [anyB_t hi z] at e; exact absurd e (by decide)
theorem anyB_no {p : Nat → Bool} {n : Nat} (h : anyB p n = false) {i : Nat} (hi : i < n) : p i = false := by
  cases z : p i with
  | false => rfl
  | true => rw [anyB_t hi z] at h; exact absurd h (by decide)
theorem nI_z {m : Nat} (h : m < 2 ^ 31) : nI m = 0 ↔ m = 0 := by rw [← nI_0, nI_eq h (by omega)]
theorem ff_eq {n : Nat} (hn : n ≤ 8) (tb : Nat → Int32) {ch : Nat → Int32} (dd : Int32) {mm : Nat → Nat} (hm : ∀ i, i < 8 → ch i = nI (mm i) ∧ mm i < 2 ^ 20) (hz : ∀ i, n ≤ i → i < 8 → mm i = 0) : g_ff n tb ch dd = h_ff n tb ch dd mm := by
  obtain ⟨A, hA, eA, -⟩ := all_n (n := n) (fun i hi => hm i (by omega))
  have ez : ∀ i, n ≤ i → i < 8 → ch i = 0 := fun i h1 h2 => by rw [(hm i h2).1, hz i h1 h2]; rfl
  rw [g_ff, h_ff, all_eq hn ez, tog_eq hn hm hz, eA, ibc_io hA]
  cases h1 : anyB (g_p1 ch) n with
  | true => rw [if_pos rfl, if_pos rfl]
  | false =>
    have hpos : ∀ i, i < n → 0 < mm i := fun i hi => by
      have := of_decide_eq_false (anyB_no h1 hi)
      rcases Nat.eq_zero_or_pos (mm i) with z | z
      · exact absurd (by rw [(hm i (by omega)).1, z]; rfl) this
      · exact z
    have e4 : anyB (g_p4 ch) n = anyB (h_p4 mm) n := anyB_congr (fun i hi => by rw [g_p4, h_p4, (hm i (by omega)).1, ht_eq (hpos i hi) (hm i (by omega)).2])
    have e5 : anyB (g_p5 tb ch) n = anyB (h_p5 tb ch) n := anyB_congr (fun i hi => by
      rw [g_p5, h_p5]
      refine anyB_congr (fun j hj => ?_)
      obtain ⟨a1, a2⟩ := hm i (by omega)
      obtain ⟨b1, b2⟩ := hm j (by omega)
      rw [g_p5i, h_p5i, a1, b1, nb_n b2, be_n, fa_and, fa_and]
      have l1 : mm i &&& nbn (mm j) < 2 ^ 20 := Nat.lt_of_le_of_lt Nat.and_le_left a2
      have l2 : mm j &&& nbn (mm i) < 2 ^ 20 := Nat.lt_of_le_of_lt Nat.and_le_left b2
      have s1 := nb_sym (a := mm i) (b := mm j) a2 b2
      have s2 := nb_sym (a := mm j) (b := mm i) b2 a2
      rw [Nat.and_comm (nbn (mm i)) (mm j)]
      refine decide_eq_decide.mpr (and_congr_right (fun _ => ?_))
      rw [nI_z (by omega), nI_z (by omega)]
      omega)
    rw [e4, e5]
theorem b_stands {k : Nat} {wc wm : ix_W} (R : Rel k wc wm) : Both k m_X4_stands m_X5_stands [] wc wm := by
  obtain ⟨n, c, tb, tl, se, on, dd, ch, tn, ro, ot, ow, tr, tu, ld, lc, cc, br, bw, fs, fo, cm, ce, li, ke, be, rfl, rfl, I⟩ := R
  have hn := I.1.2.1
  obtain ⟨mm, hm, hz⟩ := I.2.2.2.2.2.2.2
  exact ⟨_, _, _, c_stands hn, Cl.eq (m_stands hn (mm := mm) (fun i hi => ⟨(hm i (by omega)).1, by have := (hm i (by omega)).2; omega⟩)) rfl (by rw [ff_eq hn tb dd hm hz]), Rel.mk' I.up⟩
theorem ff_0 {n : Nat} {tb ch : Nat → Int32} {dd : Int32} {mm : Nat → Nat} (h : h_ff n tb ch dd mm = 0) : anyB (g_p1 ch) n = false ∧ fd (h_tog ch) 0 n = io (fd (g_all ch) 0 n) ∧ anyB (h_p5 tb ch) n = false ∧ fd (h_tog ch) 0 n ≤ 14 := by
  unfold h_ff at h
  cases h1 : anyB (g_p1 ch) n with
  | true => rw [h1, if_pos rfl] at h; exact absurd h (by decide)
  | false =>
    rw [h1, if_neg (by decide)] at h
    split at h
    · exact absurd h (by decide)
    · split at h
      · exact absurd h (by decide)
      · rename_i h3
        split at h
        · exact absurd h (by decide)
        · split at h
          · exact absurd h (by decide)
          · rename_i h5
            split at h
            · rename_i h6
              exact ⟨rfl, Decidable.not_not.mp h3, by simpa using h5, h6⟩
            · exact absurd h (by decide)
/-! links of standing chains -/
theorem st_pos {n : Nat} {tb ch : Nat → Int32} {dd : Int32} {mm : Nat → Nat} (hm : ∀ i, i < n → ch i = nI (mm i) ∧ mm i < 2 ^ 20) (h : h_ff n tb ch dd mm = 0) : ∀ i, i < n → 0 < mm i := fun i hi => by
  have := of_decide_eq_false (anyB_no (ff_0 h).1 hi)
  rcases Nat.eq_zero_or_pos (mm i) with z | z
  · exact absurd (by rw [(hm i hi).1, z]; rfl) this
  · exact z
theorem st_link {n : Nat} {tb ch : Nat → Int32} {dd : Int32} {mm : Nat → Nat} (hm : ∀ i, i < n → ch i = nI (mm i) ∧ mm i < 2 ^ 20) (h : h_ff n tb ch dd mm = 0) {a b : Nat} (hab : a < b) (hb : b < n) (ht : ¬ tb (8 * b + a) = 0) : 0 < mm a &&& nbn (mm b) := by
  have h5 := anyB_no (ff_0 h).2.2.1 hb
  have h6 := of_decide_eq_false (anyB_no h5 hab)
  obtain ⟨a1, a2⟩ := hm a (by omega)
  obtain ⟨b1, b2⟩ := hm b hb
  rw [a1, b1, be_n, fa_and, nI_z (by have : nbn (mm b) &&& mm a ≤ mm a := Nat.and_le_right; omega), Nat.and_comm] at h6
  rcases Nat.eq_zero_or_pos (mm a &&& nbn (mm b)) with z | z
  · exact absurd ⟨ht, z⟩ h6
  · exact z
def lkf (mm : Nat → Nat) (a b : Nat) : Nat := lowb (mm a &&& nbn (mm b))
def lkt (mm : Nat → Nat) (a b : Nat) : Nat := lowb (mm b &&& nbn (2 ^ lkf mm a b))
theorem lk_all {n : Nat} {tb ch : Nat → Int32} {dd : Int32} {mm : Nat → Nat} (hm : ∀ i, i < n → ch i = nI (mm i) ∧ mm i < 2 ^ 20) (h : h_ff n tb ch dd mm = 0) {a b : Nat} (hab : a < b) (hb : b < n) (ht : ¬ tb (8 * b + a) = 0) : lkf mm a b < 20 ∧ lkt mm a b < 20 ∧ (mm a).testBit (lkf mm a b) = true ∧ (mm b).testBit (lkt mm a b) = true ∧ (adjm (lkf mm a b)).testBit (lkt mm a b) = true ∧ 0 < mm b &&& nbn (2 ^ lkf mm a b) := by
  have hp := st_link hm h hab hb ht
  have ha2 := (hm a (by omega)).2
  have hb2 := (hm b hb).2
  have hl : mm a &&& nbn (mm b) < 2 ^ 20 := Nat.lt_of_le_of_lt Nat.and_le_left ha2
  have hf : lkf mm a b < 20 := lowb_lt hp hl (by omega)
  have hbit := lowb_bit hp (by omega)
  rw [Nat.testBit_and, Bool.and_eq_true] at hbit
  obtain ⟨hb1, hbn⟩ := hbit
  obtain ⟨c, c1, c2, c3⟩ := (nbn_bit _ _).mp hbn
  have hp2 : 0 < mm b &&& nbn (2 ^ lkf mm a b) := and_pos_iff.mpr ⟨c, c2, (nbn_bit _ _).mpr ⟨lkf mm a b, hf, by rw [Nat.testBit_two_pow]; exact decide_eq_true rfl, by rw [adj_sym _ hf _ c1]; exact c3⟩⟩
  have hl2 : mm b &&& nbn (2 ^ lkf mm a b) < 2 ^ 20 := Nat.lt_of_le_of_lt Nat.and_le_left hb2
  have hbit2 := lowb_bit hp2 (by omega)
  rw [Nat.testBit_and, Bool.and_eq_true] at hbit2
  obtain ⟨d, d1, d2, d3⟩ := (nbn_bit _ _).mp hbit2.2
  rw [Nat.testBit_two_pow] at d2
  have d4 := of_decide_eq_true d2
  subst d4
  exact ⟨hf, lowb_lt hp2 hl2 (by omega), hb1, hbit2.1, d3, hp2⟩
theorem b_link {k : Nat} {wc wm : ix_W} (R : Rel k wc wm) (x y z : Int32) : Both k m_X4_link m_X5_link [.inl x, .inl y, .inl z] wc wm := by
  obtain ⟨n, c, tb, tl, se, on, dd, ch, tn, ro, ot, ow, tr, tu, ld, lc, cc, br, bw, fs, fo, cm, ce, li, ke, be, rfl, rfl, I⟩ := R
  have hn := I.1.2.1
  obtain ⟨mm, hm, hz⟩ := I.2.2.2.2.2.2.2
  have hsym := I.2.1
  have hm1 : ∀ i, i < n → ch i = nI (mm i) ∧ mm i < 2 ^ 20 := fun i hi => hm i (by omega)
  have hm2 : ∀ i, i < n → ch i = nI (mm i) ∧ mm i < 2 ^ 31 := fun i hi => ⟨(hm1 i hi).1, by have := (hm1 i hi).2; omega⟩
  have hff := ff_eq hn tb dd hm hz
  by_cases h1 : inw x 0 (nI n - 1) = true
  · by_cases h2 : inw y 0 (nI n - 1) = true
    · by_cases h3 : x = y
      · exact ⟨_, _, _, c_link_bad (Or.inr (Or.inr (Or.inl h3))), m_link_bad (Or.inr (Or.inr (Or.inl h3))), Rel.mk' I.up⟩
      · by_cases h4 : inw z 0 1 = true
        · obtain ⟨a, ha, rfl⟩ := inw_of (by omega) h1
          obtain ⟨b, hb, rfl⟩ := inw_of (by omega) h2
          by_cases h5 : tb (8 * a + b) = 0 ∨ ¬ g_ff n tb ch dd = 0
          · exact ⟨_, _, _, c_link_not hn (by omega) (by omega) h1 h2 h3 h4 h5, m_link_not hn hm2 (by omega) (by omega) h1 h2 h3 h4 (hff ▸ h5), Rel.mk' I.up⟩
          · have h5a : ¬ tb (8 * a + b) = 0 := fun q => h5 (Or.inl q)
            have h5b : g_ff n tb ch dd = 0 := Decidable.not_not.mp (fun q => h5 (Or.inr q))
            have h5c : h_ff n tb ch dd mm = 0 := hff ▸ h5b
            have hne : a ≠ b := fun q => h3 (by rw [q])
            have hlt : min a b < max a b := by omega
            have hmx : max a b < n := by omega
            have htb : ¬ tb (8 * max a b + min a b) = 0 := by
              rcases Nat.lt_or_ge a b with q | q
              · rw [Nat.max_eq_right (by omega), Nat.min_eq_left (by omega), hsym _ _ (by omega) (by omega)]; exact h5a
              · rw [Nat.max_eq_left (by omega), Nat.min_eq_right (by omega)]; exact h5a
            obtain ⟨k1, k2, k3, k4, k5, k6⟩ := lk_all hm1 h5c hlt hmx htb
            have p1 := st_link hm1 h5c hlt hmx htb
            obtain ⟨m1, m2⟩ := hm1 (min a b) (by omega)
            obtain ⟨m3, m4⟩ := hm1 (max a b) hmx
            have q1 : mm (min a b) &&& nbn (mm (max a b)) < 2 ^ 31 := by have : mm (min a b) &&& nbn (mm (max a b)) ≤ mm (min a b) := Nat.and_le_left; omega
            have q2 : mm (max a b) &&& nbn (2 ^ lkf mm (min a b) (max a b)) < 2 ^ 31 := by have : mm (max a b) &&& nbn (2 ^ lkf mm (min a b) (max a b)) ≤ mm (max a b) := Nat.and_le_left; omega
            have f1 : h_be (ch (max a b)) &&& ch (min a b) = nI (mm (min a b) &&& nbn (mm (max a b))) := by rw [m1, m3, be_n, fa_and, Nat.and_comm]
            have f2 : h_be ((1 : Int32) <<< (nI (lowb (mm (min a b) &&& nbn (mm (max a b)))) &&& 31)) &&& ch (max a b) = nI (mm (max a b) &&& nbn (2 ^ lkf mm (min a b) (max a b))) := by
              rw [show lowb (mm (min a b) &&& nbn (mm (max a b))) = lkf mm (min a b) (max a b) from rfl, sh1_n k1, m3, be_n, fa_and, Nat.and_comm]
            have e1 : itz (ch (min a b) &&& g_nb (ch (max a b))) = nI (lkf mm (min a b) (max a b)) := by rw [m1, m3, nb_n m4, fa_and, itz_low p1 q1]; rfl
            have hC := c_link (c := c) (tn := tn) (tl := tl) (se := se) (on := on) (ro := ro) (ot := ot) (ow := ow) (tr := tr) (tu := tu) (ld := ld) (lc := lc) (cc := cc) (br := br) (bw := bw) hn (by omega) (by omega) h1 h2 h3 h4 h5a h5b
            rw [g_lk, e1, sh1_n k1, m3, nb_n (Nat.pow_lt_pow_right (by omega) k1), fa_and, itz_low k6 q2] at hC
            by_cases hz0 : z = 0
            · subst hz0
              rw [if_pos rfl] at hC
              exact ⟨_, _, _, hC, m_link hn hm2 (by omega) (by omega) h1 h2 h3 h4 h5a h5c (m_linkOf0 (by omega) (by omega) f1 p1 q1), Rel.mk' I.up⟩
            · rw [if_neg hz0] at hC
              exact ⟨_, _, _, hC, m_link hn hm2 (by omega) (by omega) h1 h2 h3 h4 h5a h5c (m_linkOf1 hz0 (by omega) (by omega) f1 p1 q1 f2 k6 q2), Rel.mk' I.up⟩
        · exact ⟨_, _, _, c_link_bad (Or.inr (Or.inr (Or.inr (inw_no h4)))), m_link_bad (Or.inr (Or.inr (Or.inr (inw_no h4)))), Rel.mk' I.up⟩
    · exact ⟨_, _, _, c_link_bad (Or.inr (Or.inl (inw_no h2))), m_link_bad (Or.inr (Or.inl (inw_no h2))), Rel.mk' I.up⟩
  · exact ⟨_, _, _, c_link_bad (Or.inl (inw_no h1)), m_link_bad (Or.inl (inw_no h1)), Rel.mk' I.up⟩
/-! reading back -/
theorem shl_0 {i : Nat} (hi : i < 32) : (0 : Int32) <<< (nI i &&& 31) = 0 := by
  apply b_ext
  intro j hj
  rw [b_shl i hi 0 hj, b_0, b_0, Bool.and_false]
theorem i_and_comm (x y : Int32) : x &&& y = y &&& x := by
  apply b_ext
  intro j _
  rw [b_and, b_and, Bool.and_comm]
theorem rb_eq {m : Nat} (hm : m < 2 ^ 20) (x : Int32) {i : Nat} (hi : i < 8) : g_mo (nI m) x (lowb m) <<< (nI i &&& 31) = if h_ri (nI m) x m = true then (1 : Int32) <<< (nI i &&& 31) else 0 := by
  obtain ⟨q, hq, e⟩ := and_nI m x
  have e2 : x &&& nI m = nI q := by rw [i_and_comm, e]
  have hb := bc1_le m 20
  have hb2 := bc1_le q 20
  rw [g_mo, h_ri, e, e2, ibc_n (by omega), ibc_n hm, io_n, io_n]
  generalize bc1 q 20 = u at hb2
  generalize bc1 m 20 = v at hb
  generalize bb x (lowb m) = w
  have t1 : (nI v - nI u).toInt = (v : Int) - u := by rw [ti_sub, nI_toInt (by omega), nI_toInt (by omega)] <;> rw [nI_toInt (by omega), nI_toInt (by omega)] <;> omega
  have t2 : (2 * nI u - nI v).toInt = 2 * (u : Int) - v := by
    rw [show (2 : Int32) = nI 2 from rfl, pk_mul, ti_sub, nI_toInt (by omega), nI_toInt (by omega)]
    · omega
    · rw [nI_toInt (by omega), nI_toInt (by omega)]; omega
    · rw [nI_toInt (by omega), nI_toInt (by omega)]; omega
  by_cases h1 : 2 * u = v
  · rw [if_pos (by rw [fa_eq, t1, nI_toInt (by omega)]; omega)]
    cases w with
    | true => rw [decide_eq_true (Or.inr ⟨by rw [fa_eq, t2, ti_0]; omega, rfl⟩), if_pos rfl]; rfl
    | false =>
      rw [decide_eq_false (fun y => y.elim (fun y => by rw [fa_lt, t2, ti_0] at y; omega) (fun y => absurd y.2 (by decide))), if_neg (by decide)]
      exact shl_0 (by omega)
  · rw [if_neg (fun y => h1 (by rw [fa_eq, t1, nI_toInt (by omega)] at y; omega))]
    by_cases h2 : 2 * u < v
    · rw [if_pos (by rw [fa_le, t1, nI_toInt (by omega)]; omega), decide_eq_false (fun y => y.elim (fun y => by rw [fa_lt, t2, ti_0] at y; omega) (fun y => by have := y.1; rw [fa_eq, t2, ti_0] at this; omega)), if_neg (by decide)]
      exact shl_0 (by omega)
    · rw [if_neg (fun y => by rw [fa_le, t1, nI_toInt (by omega)] at y; omega), decide_eq_true (Or.inl (by rw [fa_lt, t2, ti_0]; omega)), if_pos rfl]
theorem b_readBack {k : Nat} {wc wm : ix_W} (R : Rel k wc wm) (x : Int32) : Both k m_X4_readBack m_X5_readBack [.inl x] wc wm := by
  obtain ⟨n, c, tb, tl, se, on, dd, ch, tn, ro, ot, ow, tr, tu, ld, lc, cc, br, bw, fs, fo, cm, ce, li, ke, be, rfl, rfl, I⟩ := R
  have hn := I.1.2.1
  obtain ⟨mm, hm, hz⟩ := I.2.2.2.2.2.2.2
  have hm1 : ∀ i, i < n → ch i = nI (mm i) ∧ mm i < 2 ^ 20 := fun i hi => hm i (by omega)
  have hm2 : ∀ i, i < n → ch i = nI (mm i) ∧ mm i < 2 ^ 31 := fun i hi => ⟨(hm1 i hi).1, by have := (hm1 i hi).2; omega⟩
  have hff := ff_eq hn tb dd hm hz
  have hall := all_eq hn (ch := ch) (fun i h1 h2 => by rw [(hm i h2).1, hz i h1 h2]; rfl)
  by_cases h : x &&& (fd (g_all ch) 0 n ^^^ (-1)) = 0
  · have h' : x &&& (fd (g_all ch) 0 8 ^^^ (-1)) = 0 := by rw [hall]; exact h
    by_cases h2 : g_ff n tb ch dd = 0
    · have h2c : h_ff n tb ch dd mm = 0 := hff ▸ h2
      have hpos := st_pos hm1 h2c
      refine ⟨_, _, _, c_readBack hn h' h2 (l0 := fun i => lowb (mm i)) (fun i hi => by rw [(hm1 i hi).1, itz_low (hpos i hi) (hm2 i hi).2]), Cl.eq (m_readBack hn hm2 hpos h h2c) rfl ?_, Rel.mk' I.up⟩
      congr 2
      apply fd_congr
      intro i a hi
      rw [g_rb, h_rb, (hm1 i hi).1, rb_eq (hm1 i hi).2 x (by omega)]
    · exact ⟨_, _, _, c_readBack_not hn h' h2, m_readBack_not hn hm2 h (hff ▸ h2), Rel.mk' I.up⟩
  · exact ⟨_, _, _, c_readBack_bad (by rw [hall]; exact h), m_readBack_bad hn h, Rel.mk' I.up⟩
