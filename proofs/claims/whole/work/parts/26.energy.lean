/-! energies: sums of ints, by their order and parts -/
def sm (f : Nat → Int32) : Nat → Int32
  | 0 => 0
  | n + 1 => sm f n + f n
theorem sm_congr {f g : Nat → Int32} : ∀ {n : Nat}, (∀ i, i < n → f i = g i) → sm f n = sm g n
  | 0, _ => rfl
  | n + 1, H => by rw [sm, sm, sm_congr (fun i hi => H i (by omega)), H n (by omega)]
theorem fd_sm (f : Nat → Int32) (s : Int32) : ∀ n, fd (fun i a => a + f i) s n = s + sm f n
  | 0 => by rw [fd, sm, Int32.add_zero]
  | n + 1 => by rw [fd, fd_sm f s n, sm, Int32.add_assoc]
theorem sm_add (f g : Nat → Int32) : ∀ n, sm (fun i => f i + g i) n = sm f n + sm g n
  | 0 => by rw [sm, sm, sm, Int32.add_zero]
  | n + 1 => by
    rw [sm, sm, sm, sm_add f g n]
    rw [Int32.add_assoc, Int32.add_assoc, ← Int32.add_assoc (sm g n), Int32.add_comm (sm g n) (f n), Int32.add_assoc]
theorem sm_zero {f : Nat → Int32} : ∀ {n : Nat}, (∀ i, i < n → f i = 0) → sm f n = 0
  | 0, _ => rfl
  | n + 1, H => by rw [sm, sm_zero (fun i hi => H i (by omega)), H n (by omega), Int32.add_zero]
theorem sm_split (f : Nat → Int32) (a : Nat) : ∀ d, sm f (a + d) = sm f a + sm (fun k => f (a + k)) d
  | 0 => by rw [sm, Int32.add_zero]; rfl
  | d + 1 => by rw [show a + (d + 1) = (a + d) + 1 by omega, sm, sm_split f a d, sm, Int32.add_assoc]
/-- one place counts more -/
theorem sm_at {f g : Nat → Int32} {i : Nat} {x : Int32} (hg : ∀ j, j ≠ i → g j = f j) (hi : g i = f i + x) : ∀ {n : Nat}, i < n → sm g n = sm f n + x
  | 0, h => absurd h (by omega)
  | n + 1, h => by
    rw [sm, sm]
    rcases Nat.lt_or_ge i n with q | q
    · rw [sm_at hg hi q, hg n (by omega), Int32.add_assoc, Int32.add_comm x, ← Int32.add_assoc]
    · have e : i = n := by omega
      subst e
      rw [sm_congr (f := g) (g := f) (fun j hj => hg j (by omega)), hi, Int32.add_assoc]
/-- what letter i adds beside the set o -/
theorem gain_sm (n : Nat) (tb : Nat → Int32) (i : Nat) (o : Int32) : g_gain n tb i o = tb (8 * i + i) + sm (fun j => if j ≠ i ∧ bb o j = true then tb (8 * i + j) else 0) n := by
  unfold g_gain
  rw [← fd_sm]
  apply fd_congr
  intro j a _
  rw [g_gs]
  split
  · rfl
  · rw [Int32.add_zero]
theorem hen_sm (n : Nat) (c : Int32) (tb : Nat → Int32) (s : Int32) : h_en n c tb s = c + sm (fun i => sm (h_ev tb s i) (i + 1)) n := by
  unfold h_en
  rw [← fd_sm]
  apply fd_congr
  intro i a _
  rw [h_er, ← fd_sm]
  rfl
theorem msk_n {i : Nat} (hi : i < 9) : ((1 : Int32) <<< (nI i &&& 31)) - 1 = nI (2 ^ i - 1) := by
  have : ∀ i, i < 9 → ((1 : Int32) <<< (nI i &&& 31)) - 1 = nI (2 ^ i - 1) := by decide +kernel
  exact this i hi
/-- bits below i -/
theorem low_bits {s : Nat} {i j : Nat} (hi : i ≤ 8) (hj : j < 32) : bb (nI s &&& (((1 : Int32) <<< (nI i &&& 31)) - 1)) j = (s.testBit j && decide (j < i)) := by
  rw [msk_n (by omega), fa_and, bb_nI hj, Nat.testBit_and, Nat.testBit_two_pow_sub_one]
theorem en_eq {n : Nat} (hn : n ≤ 8) (c : Int32) (tb : Nat → Int32) (s : Nat) : g_en n c tb (nI s) = h_en n c tb (nI s) := by
  rw [hen_sm]
  unfold g_en
  rw [← fd_sm]
  apply fd_congr
  intro i a hi
  rw [g_es, bb_nI (by omega)]
  by_cases hb : s.testBit i = true
  · rw [if_pos hb, gain_sm]
    congr 1
    rw [sm]
    have e0 : h_ev tb (nI s) i i = tb (8 * i + i) := by rw [h_ev, bb_nI (by omega), if_pos ⟨hb, hb⟩]
    rw [e0, Int32.add_comm]
    congr 1
    obtain ⟨d, rfl⟩ : ∃ d, n = i + d := ⟨n - i, by omega⟩
    rw [sm_split]
    rw [sm_zero (f := fun k => if i + k ≠ i ∧ bb (nI s &&& (((1 : Int32) <<< (nI i &&& 31)) - 1)) (i + k) = true then tb (8 * i + (i + k)) else 0), Int32.add_zero]
    · apply sm_congr
      intro j hj
      rw [low_bits (by omega) (by omega), h_ev, bb_nI (by omega), bb_nI (by omega), hb, decide_eq_true hj]
      by_cases hj2 : s.testBit j = true
      · rw [if_pos ⟨by omega, by rw [hj2]; rfl⟩, if_pos ⟨rfl, hj2⟩]
      · rw [if_neg (fun q => hj2 (by simpa using q.2)), if_neg (fun q => hj2 q.2)]
    · intro k hk
      rw [low_bits (by omega) (by omega), decide_eq_false (by omega), if_neg (fun q => by simp at q)]
  · rw [if_neg hb]
    have : sm (h_ev tb (nI s) i) (i + 1) = 0 := sm_zero (fun j hj => by rw [h_ev, bb_nI (by omega), if_neg (fun q => hb q.1)])
    rw [this, Int32.add_zero]
/-- the energy of a set as a function of its bits -/
def enr (tb : Nat → Int32) (p : Nat → Bool) (i : Nat) : Int32 := sm (fun j => if p i = true ∧ p j = true then tb (8 * i + j) else 0) (i + 1)
def enb (n : Nat) (tb : Nat → Int32) (p : Nat → Bool) : Int32 := sm (enr tb p) n
theorem hen_b {n : Nat} (hn : n ≤ 8) (c : Int32) (tb : Nat → Int32) (s : Nat) : h_en n c tb (nI s) = c + enb n tb (fun i => s.testBit i) := by
  rw [hen_sm]
  congr 1
  apply sm_congr
  intro i hi
  apply sm_congr
  intro j hj
  rw [h_ev, bb_nI (by omega), bb_nI (by omega)]
/-- a letter k that comes in: its weight, and those of its pairs with all that are in -/
theorem enb_in {n : Nat} {tb : Nat → Int32} (hsym : ∀ i j, i < 8 → j < 8 → tb (8 * i + j) = tb (8 * j + i)) (hn : n ≤ 8) {k : Nat} {p q : Nat → Bool} (hp : p k = false) (hq : q k = true) (hpq : ∀ j, j ≠ k → q j = p j) (hk : k < n) :
    enb n tb q = enb n tb p + (tb (8 * k + k) + sm (fun j => if j ≠ k ∧ p j = true then tb (8 * k + j) else 0) n) := by
  have key : ∀ N, N ≤ n → enb N tb q = enb N tb p + (if k < N then tb (8 * k + k) + sm (fun j => if j ≠ k ∧ p j = true then tb (8 * k + j) else 0) N else 0) := by
    intro N
    induction N with
    | zero => intro _; rw [if_neg (by omega)]; rfl
    | succ N ih =>
      intro hN
      have ih := ih (by omega)
      unfold enb at ih ⊢
      rw [sm, sm, ih]
      rcases Nat.lt_trichotomy k N with h | h | h
      · -- k < N: row N gets the pair (N, k)
        rw [if_pos h, if_pos (by omega)]
        have hr : enr tb q N = enr tb p N + (if p N = true then tb (8 * k + N) else 0) := by
          unfold enr
          rw [hpq N (by omega)]
          refine sm_at (i := k) (fun j hj => by rw [hpq j hj]) ?_ (by omega)
          rw [hq, hp]
          by_cases hpN : p N = true
          · rw [if_pos ⟨hpN, rfl⟩, if_neg (fun z => by cases z.2), if_pos hpN, Int32.zero_add]
            exact hsym N k (by omega) (by omega)
          · rw [if_neg (fun z => hpN z.1), if_neg (fun z => hpN z.1), if_neg hpN, Int32.zero_add]
        rw [hr, sm]
        have e2 : (if N ≠ k ∧ p N = true then tb (8 * k + N) else 0) = (if p N = true then tb (8 * k + N) else 0) := by
          by_cases hpN : p N = true
          · rw [if_pos ⟨by omega, hpN⟩, if_pos hpN]
          · rw [if_neg (fun z => hpN z.2), if_neg hpN]
        rw [e2]
        generalize (if p N = true then tb (8 * k + N) else 0) = y
        generalize enr tb p N = r
        generalize sm (fun j => if j ≠ k ∧ p j = true then tb (8 * k + j) else 0) N = z
        generalize sm (enr tb p) N = u
        generalize tb (8 * k + k) = v
        rw [Int32.add_assoc u, Int32.add_assoc u, ← Int32.add_assoc (v + z), Int32.add_comm (v + z) r, Int32.add_assoc r, Int32.add_assoc v]
      · -- the row of k itself
        subst h
        rw [if_neg (by omega), if_pos (by omega), Int32.add_zero, Int32.add_assoc]
        congr 1
        have z1 : enr tb p k = 0 := sm_zero (fun j _ => by rw [if_neg (fun z => by rw [hp] at z; cases z.1)])
        rw [z1, Int32.zero_add, enr, sm, sm, if_pos ⟨hq, hq⟩, if_neg (fun z => z.1 rfl), Int32.add_zero, Int32.add_comm]
        congr 1
        apply sm_congr
        intro j hj
        rw [hq, hpq j (by omega)]
        by_cases hpj : p j = true
        · rw [if_pos ⟨rfl, hpj⟩, if_pos ⟨by omega, hpj⟩]
        · rw [if_neg (fun z => hpj z.2), if_neg (fun z => hpj z.2)]
      · -- k beyond N
        rw [if_neg (by omega), if_neg (by omega), Int32.add_zero, Int32.add_zero]
        congr 1
        unfold enr
        apply sm_congr
        intro j hj
        rw [hpq N (by omega), hpq j (by omega)]
  have := key n (Nat.le_refl n)
  rw [if_pos hk] at this
  exact this
/-- the same, of states -/
theorem en_in {n : Nat} {tb : Nat → Int32} (hsym : ∀ i j, i < 8 → j < 8 → tb (8 * i + j) = tb (8 * j + i)) (hn : n ≤ 8) (c : Int32) {k s r : Nat} (hk : k < n) (hs : s.testBit k = true) (hr : r.testBit k = false) (hsr : ∀ j, j ≠ k → s.testBit j = r.testBit j) : h_en n c tb (nI s) = h_en n c tb (nI r) + g_gain n tb k (nI r) := by
  rw [hen_b hn, hen_b hn, enb_in hsym hn hr hs hsr hk, gain_sm, ← Int32.add_assoc]
  congr 2
  apply sm_congr
  intro j hj
  rw [bb_nI (by omega)]
theorem gain_self (n : Nat) (tb : Nat → Int32) {k s r : Nat} (hn : n ≤ 8) (hsr : ∀ j, j ≠ k → s.testBit j = r.testBit j) : g_gain n tb k (nI s) = g_gain n tb k (nI r) := by
  rw [gain_sm, gain_sm]
  congr 1
  apply sm_congr
  intro j hj
  rw [bb_nI (by omega), bb_nI (by omega)]
  by_cases h : j = k
  · rw [if_neg (fun z => z.1 h), if_neg (fun z => z.1 h)]
  · rw [hsr j h]
theorem and_pred_bit (t j : Nat) (ht : t + 1 < 2 ^ 31) : ((t + 1) &&& t).testBit j = ((t + 1).testBit j && !decide (j = lowb (t + 1))) := by
  obtain ⟨hk, q, hq⟩ := low_dec (by omega : 0 < t + 1) ht
  generalize lowb (t + 1) = k at hk hq
  have hp : 0 < 2 ^ k := Nat.two_pow_pos k
  have e2 : t = 2 ^ k * (2 * q) + (2 ^ k - 1) := by
    have : t + 1 = 2 ^ k * (2 * q) + 2 ^ k := by rw [hq, Nat.mul_add]; omega
    omega
  rw [Nat.testBit_and]
  conv => lhs; rhs; rw [e2]
  rw [show t + 1 = 2 ^ k * (2 * q + 1) + 0 by omega, Nat.testBit_two_pow_mul_add (2 * q) (by omega : 2 ^ k - 1 < 2 ^ k), Nat.testBit_two_pow_mul_add (2 * q + 1) hp]
  by_cases hik : j < k
  · rw [if_pos hik]; simp
  · rw [if_neg hik, if_neg hik]
    by_cases e : j = k
    · subst e
      simp
    · obtain ⟨i, hi⟩ : ∃ i, j - k = i + 1 := ⟨j - k - 1, by omega⟩
      rw [hi]
      simp only [Nat.testBit_succ]
      rw [show (2 * q + 1) / 2 = q by omega, show (2 * q) / 2 = q by omega]
      simp [e]
/-- the class's row holds the energies -/
theorem fill_eq {n : Nat} {tb : Nat → Int32} (hsym : ∀ i j, i < 8 → j < 8 → tb (8 * i + j) = tb (8 * j + i)) (hn : n ≤ 8) (c : Int32) (f : Nat → Int32) {s : Nat} (hs : s < 2 ^ n) : g_fill n c tb f s = h_en n c tb (nI s) := by
  have hp := (pw_le hn).1
  have key : ∀ t, t ≤ 2 ^ n - 1 → ∀ s, s ≤ t → fd (g_fs n tb) (upd f 0 c) t s = h_en n c tb (nI s) := by
    intro t
    induction t with
    | zero =>
      intro _ s hs
      have : s = 0 := by omega
      subst this
      rw [fd, pk_us, hen_b hn]
      have : enb n tb (fun i => (0 : Nat).testBit i) = 0 := sm_zero (fun i _ => sm_zero (fun j _ => by rw [if_neg (fun z => by simp at z)]))
      rw [this, Int32.add_zero]
    | succ t ih =>
      intro ht s hs
      have ih := ih (by omega)
      rw [fd, g_fs]
      rcases Nat.lt_or_ge s (t + 1) with q | q
      · rw [pk_un (by omega)]; exact ih s (by omega)
      · have e : s = t + 1 := by omega
        subst e
        rw [pk_us, ih _ (Nat.and_le_right)]
        have hb : (t + 1).testBit (lowb (t + 1)) = true := lowb_bit (by omega) (by omega)
        have hl : lowb (t + 1) < n := lowb_lt (by omega) (by omega) (by omega)
        rw [en_in hsym hn c (k := lowb (t + 1)) (s := t + 1) (r := (t + 1) &&& t) hl hb (by rw [and_pred_bit t _ (by omega), hb]; simp) (fun j hj => by rw [and_pred_bit t _ (by omega), decide_eq_false hj]; simp)]
  exact key (2 ^ n - 1) (Nat.le_refl _) s (by omega)
