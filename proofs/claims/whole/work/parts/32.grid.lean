/-! the grid: neighbours -/
theorem or_and' (x y z : Int32) : (x ||| y) &&& z = (x &&& z) ||| (y &&& z) := by
  apply b_ext
  intro i _
  rw [b_and, b_or, b_or, b_and, b_and, Bool.and_or_distrib_right]
theorem or_shl' {k : Nat} (hk : k < 32) (x y : Int32) : (x ||| y) <<< (nI k &&& 31) = (x <<< (nI k &&& 31)) ||| (y <<< (nI k &&& 31)) := by
  apply b_ext
  intro i hi
  rw [b_or, b_shl k hk _ hi, b_shl k hk _ hi, b_shl k hk _ hi, b_or, Bool.and_or_distrib_left]
theorem or_shr' {k : Nat} (hk : k < 32) (x y : Int32) : (x ||| y) >>> (nI k &&& 31) = (x >>> (nI k &&& 31)) ||| (y >>> (nI k &&& 31)) := by
  apply b_ext
  intro i hi
  rw [b_or, b_sshr k hk _ hi, b_sshr k hk _ hi, b_sshr k hk _ hi, b_or, b_or]
  split <;> rfl
theorem nb_or (x y : Int32) : g_nb (x ||| y) = g_nb x ||| g_nb y := by
  unfold g_nb
  rw [or_and', or_and', show (1 : Int32) = nI 1 from rfl, show (5 : Int32) = nI 5 from rfl, or_shr' (k := 1) (by omega), or_shl' (k := 1) (by omega), or_shr' (k := 5) (by omega), or_shl' (k := 5) (by omega), or_and']
  apply b_ext
  intro i _
  simp only [b_or]
  ac_rfl
def adjm (c : Nat) : Nat := (((if 5 ≤ c then 2 ^ (c - 5) else 0) ||| (if c < 15 then 2 ^ (c + 5) else 0)) ||| (if c % 5 = 0 then 0 else 2 ^ (c - 1))) ||| (if c % 5 = 4 then 0 else 2 ^ (c + 1))
def nbs (m c a : Nat) : Nat := if m.testBit c = true then a ||| adjm c else a
def nbn (m : Nat) : Nat := fd (nbs m) 0 20
theorem adj_tab : ∀ c, c < 20 → g_nb (nI (2 ^ c)) = nI (adjm c) ∧ (((0 ||| h_u1 c) ||| h_u2 c) ||| h_u3 c) ||| h_u4 c = nI (adjm c) ∧ adjm c < 2 ^ 20 := by decide +kernel
theorem adj_sym : ∀ c, c < 20 → ∀ d, d < 20 → (adjm c).testBit d = (adjm d).testBit c := by decide +kernel
theorem zor (x : Int32) : 0 ||| x = x := by
  apply b_ext
  intro i _
  rw [b_or, b_0, Bool.false_or]
theorem mod_or (m N : Nat) : m % 2 ^ (N + 1) = if m.testBit N = true then (m % 2 ^ N) ||| 2 ^ N else m % 2 ^ N := by
  apply Nat.eq_of_testBit_eq
  intro j
  rw [Nat.testBit_mod_two_pow]
  cases h : m.testBit N with
  | true =>
    rw [if_pos rfl, Nat.testBit_or, Nat.testBit_mod_two_pow, Nat.testBit_two_pow]
    by_cases e : N = j
    · subst e; rw [h]; simp
    · rw [decide_eq_false e, Bool.or_false, decide_eq_decide.mpr (show j < N + 1 ↔ j < N by omega)]
  | false =>
    rw [if_neg (by decide), Nat.testBit_mod_two_pow]
    by_cases e : N = j
    · subst e; rw [h]; simp
    · rw [decide_eq_decide.mpr (show j < N + 1 ↔ j < N by omega)]
theorem nb_fold (m : Nat) : ∀ {N : Nat}, N ≤ 20 → g_nb (nI (m % 2 ^ N)) = nI (fd (nbs m) 0 N) ∧ fd (h_bs (nI m)) 0 N = nI (fd (nbs m) 0 N) ∧ fd (nbs m) 0 N < 2 ^ 20
  | 0, _ => by
    rw [Nat.pow_zero, Nat.mod_one, fd, fd]
    exact ⟨by decide, rfl, Nat.two_pow_pos 20⟩
  | N + 1, hN => by
    obtain ⟨h1, h2, h3⟩ := nb_fold m (N := N) (by omega)
    obtain ⟨t1, t2, t3⟩ := adj_tab N (by omega)
    rw [mod_or, fd, fd, nbs, h_bs, bb_nI (by omega)]
    cases m.testBit N with
    | true =>
      rw [if_pos rfl, if_pos rfl, if_pos rfl, ← fa_or, nb_or, h1, t1, fa_or, h2]
      refine ⟨rfl, ?_, Nat.or_lt_two_pow h3 t3⟩
      rw [← fa_or, ← t2, zor]
      apply b_ext
      intro i _
      simp only [b_or]
      ac_rfl
    | false =>
      rw [if_neg (by decide), if_neg (by decide), if_neg (by decide)]
      exact ⟨h1, h2, h3⟩
theorem nb_n {m : Nat} (hm : m < 2 ^ 20) : g_nb (nI m) = nI (nbn m) := by
  have := (nb_fold m (Nat.le_refl 20)).1
  rw [Nat.mod_eq_of_lt hm] at this
  exact this
theorem be_n (m : Nat) : h_be (nI m) = nI (nbn m) := (nb_fold m (Nat.le_refl 20)).2.1
theorem nbn_lt (m : Nat) : nbn m < 2 ^ 20 := (nb_fold m (Nat.le_refl 20)).2.2
theorem nbn_bit (m j : Nat) : (nbn m).testBit j = true ↔ ∃ c, c < 20 ∧ m.testBit c = true ∧ (adjm c).testBit j = true := by
  have : ∀ N, (fd (nbs m) 0 N).testBit j = true ↔ ∃ c, c < N ∧ m.testBit c = true ∧ (adjm c).testBit j = true := by
    intro N
    induction N with
    | zero => rw [fd, Nat.zero_testBit]; exact ⟨fun h => absurd h (by decide), fun ⟨c, h, _⟩ => absurd h (by omega)⟩
    | succ N ih =>
      rw [fd, nbs]
      cases h : m.testBit N with
      | true =>
        rw [if_pos rfl, Nat.testBit_or, Bool.or_eq_true, ih]
        constructor
        · rintro (⟨c, h1, h2, h3⟩ | h1)
          · exact ⟨c, by omega, h2, h3⟩
          · exact ⟨N, by omega, h, h1⟩
        · rintro ⟨c, h1, h2, h3⟩
          by_cases e : c = N
          · subst e; exact Or.inr h3
          · exact Or.inl ⟨c, by omega, h2, h3⟩
      | false =>
        rw [if_neg (by decide), ih]
        constructor
        · rintro ⟨c, h1, h2, h3⟩; exact ⟨c, by omega, h2, h3⟩
        · rintro ⟨c, h1, h2, h3⟩
          refine ⟨c, ?_, h2, h3⟩
          rcases Nat.lt_or_ge c N with z | z
          · exact z
          · have : c = N := by omega
            subst this; rw [h] at h2; exact absurd h2 (by decide)
  exact this 20
theorem lt_bit {m j : Nat} (hm : m < 2 ^ 20) (h : m.testBit j = true) : j < 20 := by
  rcases Nat.lt_or_ge j 20 with z | z
  · exact z
  · have := Nat.testBit_lt_two_pow (Nat.lt_of_lt_of_le hm (Nat.pow_le_pow_right (by omega) z))
    rw [h] at this
    exact absurd this (by decide)
theorem and_pos_iff {a b : Nat} : 0 < a &&& b ↔ ∃ j, a.testBit j = true ∧ b.testBit j = true := by
  constructor
  · intro h
    obtain ⟨j, hj⟩ := Nat.exists_testBit_of_ne_zero (x := a &&& b) (by omega)
    rw [Nat.testBit_and, Bool.and_eq_true] at hj
    exact ⟨j, hj⟩
  · rintro ⟨j, h1, h2⟩
    rcases Nat.eq_zero_or_pos (a &&& b) with e | e
    · have : (a &&& b).testBit j = true := by rw [Nat.testBit_and, h1, h2]; rfl
      rw [e, Nat.zero_testBit] at this
      exact absurd this (by decide)
    · exact e
theorem nb_sym {a b : Nat} (ha : a < 2 ^ 20) (hb : b < 2 ^ 20) (h : 0 < a &&& nbn b) : 0 < b &&& nbn a := by
  obtain ⟨j, h1, h2⟩ := and_pos_iff.mp h
  obtain ⟨c, c1, c2, c3⟩ := (nbn_bit b j).mp h2
  have hj := lt_bit ha h1
  exact and_pos_iff.mpr ⟨c, c2, (nbn_bit a c).mpr ⟨j, hj, h1, by rw [adj_sym j hj c c1]; exact c3⟩⟩
theorem ht_eq {m : Nat} (h0 : 0 < m) (hm : m < 2 ^ 20) : g_ht (nI m) = h_ht m := by
  have hl := lowb_lt h0 hm (by omega)
  have key : ∀ N, ∃ r, r < 2 ^ 20 ∧ fd (g_hs (nI m)) (nI (2 ^ lowb m)) N = nI r ∧ fd (h_hs (nI m)) (nI (2 ^ lowb m)) N = nI r := by
    intro N
    induction N with
    | zero => exact ⟨2 ^ lowb m, Nat.pow_lt_pow_right (by omega) hl, rfl, rfl⟩
    | succ N ih =>
      obtain ⟨r, hr, e1, e2⟩ := ih
      rw [fd, fd, e1, e2, g_hs, h_hs, nb_n hr, be_n, fa_and, fa_and, fa_or, fa_or, Nat.and_comm m]
      exact ⟨_, Nat.or_lt_two_pow hr (Nat.lt_of_le_of_lt Nat.and_le_right hm), rfl, rfl⟩
  obtain ⟨r, -, e1, e2⟩ := key 20
  rw [g_ht, h_ht, low_bit h0 (by omega), sh1_n hl, e1, e2]
theorem all_n {ch : Nat → Int32} {mm : Nat → Nat} : ∀ {n : Nat}, (∀ i, i < n → ch i = nI (mm i) ∧ mm i < 2 ^ 20) → ∃ A, A < 2 ^ 20 ∧ fd (g_all ch) 0 n = nI A ∧ ∀ j, A.testBit j = true ↔ ∃ i, i < n ∧ (mm i).testBit j = true
  | 0, _ => ⟨0, Nat.two_pow_pos 20, rfl, fun j => ⟨fun h => by rw [Nat.zero_testBit] at h; exact absurd h (by decide), fun ⟨_, h, _⟩ => absurd h (by omega)⟩⟩
  | n + 1, h => by
    obtain ⟨A, h1, h2, h3⟩ := all_n (n := n) (fun i hi => h i (by omega))
    obtain ⟨e, hl⟩ := h n (by omega)
    refine ⟨A ||| mm n, Nat.or_lt_two_pow h1 hl, by rw [fd, h2, g_all, e, fa_or], fun j => ?_⟩
    rw [Nat.testBit_or, Bool.or_eq_true, h3]
    constructor
    · rintro (⟨i, i1, i2⟩ | i1)
      · exact ⟨i, by omega, i2⟩
      · exact ⟨n, by omega, i1⟩
    · rintro ⟨i, i1, i2⟩
      by_cases e : i = n
      · subst e; exact Or.inr i2
      · exact Or.inl ⟨i, by omega, i2⟩
theorem anyB_congr {p q : Nat → Bool} {n : Nat} (h : ∀ i, i < n → p i = q i) : anyB p n = anyB q n := by
  cases e : anyB q n with
  | true =>
    obtain ⟨i, h1, h2⟩ := anyB_ex.mp e
    exact anyB_t h1 (by rw [h i h1]; exact h2)
  | false =>
    refine anyB_f (fun i hi => ?_)
    rw [h i hi]
    cases z : q i with
    | false => rfl
    | true => rw [anyB_t hi z] at e; exact absurd e (by decide)
theorem anyB_no {p : Nat → Bool} {n : Nat} (h : anyB p n = false) {i : Nat} (hi : i < n) : p i = false := by
  cases z : p i with
  | false => rfl
  | true => rw [anyB_t hi z] at h; exact absurd h (by decide)
theorem ff_eq {n : Nat} (hn : n ≤ 8) (tb : Nat → Int32) {ch : Nat → Int32} (dd : Int32) {mm : Nat → Nat} (hm : ∀ i, i < 8 → ch i = nI (mm i) ∧ mm i < 2 ^ 20) (hz : ∀ i, n ≤ i → i < 8 → mm i = 0) : g_ff n tb ch dd = h_ff n tb ch dd mm := by
  obtain ⟨A, hA, eA, -⟩ := all_n (n := n) (fun i hi => hm i (by omega))
  have ez : ∀ i, n ≤ i → i < 8 → ch i = 0 := fun i h1 h2 => by rw [(hm i h2).1, hz i h1 h2]; rfl
  rw [g_ff, h_ff, all_eq hn ez, tog_eq hn hm hz, eA, ibc_io hA]
  cases h1 : anyB (g_p1 ch) n with
  | true => rw [if_pos rfl, if_pos rfl]
  | false =>
    have hpos : ∀ i, i < n → 0 < mm i := fun i hi => by
      have := of_decide_eq_false (anyB_no h1 hi)
      rcases Nat.eq_zero_or_pos (mm i) with z | z
      · exact absurd (by rw [(hm i (by omega)).1, z]; rfl) this
      · exact z
    have e4 : anyB (g_p4 ch) n = anyB (h_p4 mm) n := anyB_congr (fun i hi => by rw [g_p4, h_p4, (hm i (by omega)).1, ht_eq (hpos i hi) (hm i (by omega)).2])
    have e5 : anyB (g_p5 tb ch) n = anyB (h_p5 tb ch) n := anyB_congr (fun i hi => by
      rw [g_p5, h_p5]
      refine anyB_congr (fun j hj => ?_)
      obtain ⟨a1, a2⟩ := hm i (by omega)
      obtain ⟨b1, b2⟩ := hm j (by omega)
      rw [g_p5i, h_p5i, a1, b1, nb_n b2, be_n, fa_and, fa_and]
      have l1 : mm i &&& nbn (mm j) < 2 ^ 20 := Nat.lt_of_le_of_lt Nat.and_le_left a2
      have l2 : nbn (mm i) &&& mm j < 2 ^ 20 := Nat.lt_of_le_of_lt Nat.and_le_right b2
      have s1 := nb_sym (a := mm i) (b := mm j) a2 b2
      have s2 := nb_sym (a := mm j) (b := mm i) b2 a2
      rw [Nat.and_comm] at l2 ⊢
      rw [Nat.and_comm (mm i)] at l1 s1 ⊢
      sorry)
    rw [e4, e5]
