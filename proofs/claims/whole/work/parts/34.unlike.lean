/-! chains that stand have no cell in common -/
theorem bc_or (a b N : Nat) : bc1 (a ||| b) N + bc1 (a &&& b) N = bc1 a N + bc1 b N := by
  induction N with
  | zero => rfl
  | succ N ih =>
    rw [bc1_s, bc1_s, bc1_s, bc1_s, Nat.testBit_or, Nat.testBit_and]
    cases a.testBit N <;> cases b.testBit N <;> simp <;> omega
def orn (mm : Nat → Nat) : Nat → Nat
  | 0 => 0
  | n + 1 => orn mm n ||| mm n
def smn (f : Nat → Nat) : Nat → Nat
  | 0 => 0
  | n + 1 => smn f n + f n
theorem orn_bit (mm : Nat → Nat) (j : Nat) : ∀ n, (orn mm n).testBit j = true ↔ ∃ i, i < n ∧ (mm i).testBit j = true
  | 0 => ⟨fun h => by rw [orn, Nat.zero_testBit] at h; exact absurd h (by decide), fun ⟨_, h, _⟩ => absurd h (by omega)⟩
  | n + 1 => by
    rw [orn, Nat.testBit_or, Bool.or_eq_true, orn_bit mm j n]
    constructor
    · rintro (⟨i, i1, i2⟩ | i1)
      · exact ⟨i, by omega, i2⟩
      · exact ⟨n, by omega, i1⟩
    · rintro ⟨i, i1, i2⟩
      by_cases e : i = n
      · subst e; exact Or.inr i2
      · exact Or.inl ⟨i, by omega, i2⟩
theorem orn_lt {mm : Nat → Nat} : ∀ {n : Nat}, (∀ i, i < n → mm i < 2 ^ 20) → orn mm n < 2 ^ 20
  | 0, _ => Nat.two_pow_pos 20
  | n + 1, h => Nat.or_lt_two_pow (orn_lt (fun i hi => h i (by omega))) (h n (by omega))
theorem all_orn {ch : Nat → Int32} {mm : Nat → Nat} : ∀ {n : Nat}, (∀ i, i < n → ch i = nI (mm i)) → fd (g_all ch) 0 n = nI (orn mm n)
  | 0, _ => rfl
  | n + 1, h => by rw [fd, all_orn (n := n) (fun i hi => h i (by omega)), g_all, h n (by omega), fa_or]; rfl
theorem tog_smn {ch : Nat → Int32} {mm : Nat → Nat} : ∀ {n : Nat}, (∀ i, i < n → ch i = nI (mm i)) → fd (h_tog ch) 0 n = nI (smn (fun i => bc1 (mm i) 20) n)
  | 0, _ => rfl
  | n + 1, h => by rw [fd, tog_smn (n := n) (fun i hi => h i (by omega)), h_tog, h n (by omega), io_n, nI_add]; rfl
theorem orn_le (mm : Nat → Nat) : ∀ n, bc1 (orn mm n) 20 ≤ smn (fun i => bc1 (mm i) 20) n
  | 0 => by show bc1 0 20 ≤ 0; decide
  | n + 1 => by
    have := bc_or (orn mm n) (mm n) 20
    have := orn_le mm n
    rw [orn, smn]; omega
theorem disj {mm : Nat → Nat} : ∀ {n : Nat}, smn (fun i => bc1 (mm i) 20) n = bc1 (orn mm n) 20 → ∀ i j, i < j → j < n → ∀ q, q < 20 → (mm i).testBit q = true → (mm j).testBit q = false
  | 0, _, i, j, h1, h2, _, _, _ => absurd h2 (by omega)
  | n + 1, h, i, j, h1, h2, q, hq, hi => by
    have e1 := bc_or (orn mm n) (mm n) 20
    have e2 := orn_le mm n
    rw [orn, smn] at h
    by_cases e : j = n
    · subst e
      have e3 : bc1 (orn mm j &&& mm j) 20 = 0 := by omega
      have := (fb_ct_zero.mp e3) q hq
      rw [Nat.testBit_and, (orn_bit mm q j).mpr ⟨i, h1, hi⟩, Bool.true_and] at this
      exact this
    · exact disj (n := n) (by omega) i j h1 (by omega) q hq hi
theorem smn_le (f : Nat → Nat) {B : Nat} (h : ∀ i, f i ≤ B) : ∀ n, smn f n ≤ n * B
  | 0 => Nat.zero_le _
  | n + 1 => by
    have := smn_le f h n
    have := h n
    rw [smn, Nat.add_mul]; omega
theorem st_disj {n : Nat} (hn : n ≤ 8) {tb ch : Nat → Int32} {dd : Int32} {mm : Nat → Nat} (hm : ∀ i, i < n → ch i = nI (mm i) ∧ mm i < 2 ^ 20) (h : h_ff n tb ch dd mm = 0) : (∀ i j, i < n → j < n → i ≠ j → ∀ q, (mm i).testBit q = true → (mm j).testBit q = false) ∧ bc1 (orn mm n) 20 ≤ 14 := by
  obtain ⟨-, h3, -, h6⟩ := ff_0 h
  have hl := smn_le (fun i => bc1 (mm i) 20) (fun i => bc1_le (mm i) 20) n
  have hb := bc1_le (orn mm n) 20
  rw [tog_smn (fun i hi => (hm i hi).1), all_orn (fun i hi => (hm i hi).1), io_n, nI_eq (by omega) (by omega)] at h3
  rw [tog_smn (fun i hi => (hm i hi).1), show (14 : Int32) = nI 14 from rfl, nI_leI (by omega) (by omega)] at h6
  have d := disj h3
  refine ⟨fun i j hi hj hne q hq => ?_, by omega⟩
  have hq20 := lt_bit (hm i hi).2 hq
  rcases Nat.lt_or_ge i j with z | z
  · exact d i j z hj q hq20 hq
  · cases e : (mm j).testBit q with
    | false => rfl
    | true =>
      have := d j i (by omega) hi q hq20 e
      rw [hq] at this
      exact absurd this (by decide)
/-! unlike neighbours -/
def yz (Y Z : Nat) (c d : Nat) : Nat := if Y.testBit c = true ∧ Z.testBit d = true then 1 else 0
def kk (F : Nat → Nat → Nat) (c : Nat) : Nat := (((if 5 ≤ c then F c (c - 5) else 0) + (if c < 15 then F c (c + 5) else 0)) + (if c % 5 = 0 then 0 else F c (c - 1))) + (if c % 5 = 4 then 0 else F c (c + 1))
def rr (F : Nat → Nat → Nat) (q : Nat) : Nat := if q % 5 = 4 then 0 else F q (q + 1) + F (q + 1) q
def ww (F : Nat → Nat → Nat) (q : Nat) : Nat := if q < 15 then F q (q + 5) + F (q + 5) q else 0
theorem edges (F : Nat → Nat → Nat) : smn (kk F) 20 = smn (rr F) 20 + smn (ww F) 20 := by
  simp [smn, kk, rr, ww]
  omega
theorem adj_cnt : ∀ c, c < 20 → ∀ d, d < 20 → (adjm c).testBit d = (((decide (5 ≤ c) && decide (d = c - 5)) || (decide (c < 15) && decide (d = c + 5))) || ((!decide (c % 5 = 0)) && decide (d = c - 1))) || ((!decide (c % 5 = 4)) && decide (d = c + 1)) := by decide +kernel
theorem bc_single {Z e : Nat} (he : e < 20) : bc1 (2 ^ e &&& Z) 20 = if Z.testBit e = true then 1 else 0 := by
  have : ∀ N, bc1 (2 ^ e &&& Z) N = if e < N ∧ Z.testBit e = true then 1 else 0 := by
    intro N
    induction N with
    | zero => rw [if_neg (by omega)]; rfl
    | succ N ih =>
      rw [bc1_s, ih, Nat.testBit_and, Nat.testBit_two_pow]
      by_cases h : e = N
      · subst h
        rw [if_neg (by omega), decide_eq_true rfl, Bool.true_and]
        cases Z.testBit e <;> simp
      · rw [decide_eq_false h, Bool.false_and, if_neg (show ¬ (false = true) by decide), Nat.add_zero]
        by_cases h2 : e < N ∧ Z.testBit e = true
        · rw [if_pos h2, if_pos ⟨by omega, h2.2⟩]
        · rw [if_neg h2, if_neg (fun y => h2 ⟨by omega, y.2⟩)]
  rw [this]
  cases Z.testBit e <;> simp [he]
theorem bc_zero (N : Nat) : bc1 0 N = 0 := by
  induction N with
  | zero => rfl
  | succ N ih => rw [bc1_s, ih, Nat.zero_testBit]; rfl
theorem bc_two {a b Z : Nat} (h : a &&& b = 0) : bc1 ((a ||| b) &&& Z) 20 = bc1 (a &&& Z) 20 + bc1 (b &&& Z) 20 := by
  have := bc_or (a &&& Z) (b &&& Z) 20
  have e : (a &&& Z) &&& (b &&& Z) = 0 := by
    apply Nat.eq_of_testBit_eq
    intro j
    have : (a &&& b).testBit j = false := by rw [h, Nat.zero_testBit]
    rw [Nat.testBit_and] at this
    rw [Nat.testBit_and, Nat.testBit_and, Nat.testBit_and, Nat.zero_testBit]
    revert this
    cases a.testBit j <;> cases b.testBit j <;> simp
  rw [e, bc_zero] at this
  rw [← this, Nat.add_zero]
  congr 1
  exact Nat.and_or_distrib_right ..
theorem adj_parts : ∀ c, c < 20 → ((if 5 ≤ c then 2 ^ (c - 5) else 0) &&& (if c < 15 then 2 ^ (c + 5) else 0) = 0) ∧ (((if 5 ≤ c then 2 ^ (c - 5) else 0) ||| (if c < 15 then 2 ^ (c + 5) else 0)) &&& (if c % 5 = 0 then 0 else 2 ^ (c - 1)) = 0) ∧ ((((if 5 ≤ c then 2 ^ (c - 5) else 0) ||| (if c < 15 then 2 ^ (c + 5) else 0)) ||| (if c % 5 = 0 then 0 else 2 ^ (c - 1))) &&& (if c % 5 = 4 then 0 else 2 ^ (c + 1)) = 0) := by decide +kernel
theorem adj_sum {Z c : Nat} (hc : c < 20) : bc1 (adjm c &&& Z) 20 = (((if 5 ≤ c then (if Z.testBit (c - 5) = true then 1 else 0) else 0) + (if c < 15 then (if Z.testBit (c + 5) = true then 1 else 0) else 0)) + (if c % 5 = 0 then 0 else (if Z.testBit (c - 1) = true then 1 else 0))) + (if c % 5 = 4 then 0 else (if Z.testBit (c + 1) = true then 1 else 0)) := by
  obtain ⟨p1, p2, p3⟩ := adj_parts c hc
  rw [adjm, bc_two p3, bc_two p2, bc_two p1]
  congr 1
  · congr 1
    · congr 1
      · split
        · exact bc_single (by omega)
        · rw [Nat.zero_and, bc_zero]
      · split
        · exact bc_single (by omega)
        · rw [Nat.zero_and, bc_zero]
    · split
      · rw [Nat.zero_and, bc_zero]
      · exact bc_single (by omega)
  · split
    · rw [Nat.zero_and, bc_zero]
    · exact bc_single (by omega)
theorem kk_adj (Y Z : Nat) {c : Nat} (hc : c < 20) : kk (yz Y Z) c = if Y.testBit c = true then bc1 (adjm c &&& Z) 20 else 0 := by
  rw [kk, adj_sum hc]
  simp only [yz]
  cases Y.testBit c with
  | true => simp
  | false => simp
theorem nbn_one {c : Nat} (hc : c < 20) : nbn (2 ^ c) = adjm c := by
  have h1 := nb_n (m := 2 ^ c) (Nat.pow_lt_pow_right (by omega) hc)
  have h2 := adj_tab c hc
  rw [h2.1] at h1
  have h3 := nbn_lt (2 ^ c)
  exact ((nI_eq (by omega) (by omega)).mp h1).symm
theorem smn_congr {f g : Nat → Nat} : ∀ {n : Nat}, (∀ i, i < n → f i = g i) → smn f n = smn g n
  | 0, _ => rfl
  | n + 1, h => by rw [smn, smn, smn_congr (fun i hi => h i (by omega)), h n (by omega)]
theorem smn_zero {f : Nat → Nat} : ∀ {n : Nat}, (∀ i, i < n → f i = 0) → smn f n = 0
  | 0, _ => rfl
  | n + 1, h => by rw [smn, smn_zero (fun i hi => h i (by omega)), h n (by omega)]
theorem smn_add (f g : Nat → Nat) : ∀ n, smn (fun i => f i + g i) n = smn f n + smn g n
  | 0 => rfl
  | n + 1 => by rw [smn, smn, smn, smn_add f g n]; omega
/-- what is in m and not in x -/
def sans (m x : Nat) : Nat := m ^^^ (m &&& x)
theorem sans_b (m x j : Nat) : (sans m x).testBit j = (m.testBit j && !x.testBit j) := by
  rw [sans, Nat.testBit_xor, Nat.testBit_and]
  cases m.testBit j <;> cases x.testBit j <;> rfl
theorem sans_i (m x : Nat) : nI m &&& (nI x ^^^ (-1)) = nI (sans m x) := by
  apply b_ext
  intro j hj
  rw [b_and, b_xor, b_m1 j hj, bt_nI _ j hj, bt_nI _ j hj, bt_nI _ j hj, sans_b, Bool.xor_true]
theorem ui_n (Y Z a : Nat) : ∀ {N : Nat}, N ≤ 20 → fd (h_ui (nI Y) (nI Z)) (nI a) N = nI (a + smn (kk (yz Y Z)) N)
  | 0, _ => rfl
  | N + 1, hN => by
    rw [fd, ui_n Y Z a (N := N) (by omega), h_ui, bb_nI (by omega), smn, kk_adj Y Z (by omega)]
    cases Y.testBit N with
    | true => rw [if_pos rfl, if_pos rfl, sh1_n (by omega), be_n, fa_and, io_n, nI_add, nbn_one (by omega), Nat.add_assoc]
    | false => rw [if_neg (by decide), if_neg (by decide), Int32.add_zero, Nat.add_zero]
def ucc (x m : Nat) : Nat := smn (kk (yz (x &&& m) (sans m x))) 20
theorem ur_n {ch : Nat → Int32} {mm : Nat → Nat} (x : Nat) : ∀ {n : Nat}, (∀ i, i < n → ch i = nI (mm i) ∧ mm i < 2 ^ 20) → fd (h_ur ch (nI x)) 0 n = nI (smn (fun i => ucc x (mm i)) n)
  | 0, _ => rfl
  | n + 1, h => by
    have ih := ur_n (ch := ch) (mm := mm) x (n := n) (fun i hi => h i (by omega))
    obtain ⟨e, hl⟩ := h n (by omega)
    have l1 : x &&& mm n < 2 ^ 20 := Nat.lt_of_le_of_lt Nat.and_le_right hl
    have l2 : sans (mm n) x < 2 ^ 20 := Nat.xor_lt_two_pow hl (Nat.lt_of_le_of_lt Nat.and_le_left hl)
    rw [fd, ih, h_ur, e, fa_and, sans_i, ui_n _ _ _ (Nat.le_refl 20), show smn (fun i => ucc x (mm i)) (n + 1) = smn (fun i => ucc x (mm i)) n + ucc x (mm n) from rfl]
    split
    · rename_i hz
      rw [nI_z (by omega), nI_z (by omega)] at hz
      have : ucc x (mm n) = 0 := smn_zero (fun c hc => by
        rw [kk_adj _ _ hc]
        rcases hz with hz | hz
        · rw [hz, Nat.zero_testBit, if_neg (by decide)]
        · rw [hz, Nat.and_zero, bc_zero]
          split <;> rfl)
      rw [this, Nat.add_zero]
    · rfl
def r1 (m : Nat) : Nat := (m &&& (m / 2 ^ 1)) &&& 4294426095
def b1 (m : Nat) : Nat := m &&& (m / 2 ^ 5)
theorem mask_b : ∀ q, q < 20 → Nat.testBit 4294426095 q = !decide (q % 5 = 4) := by decide +kernel
theorem r1_le (m : Nat) : r1 m ≤ m := Nat.le_trans Nat.and_le_left Nat.and_le_left
theorem b1_le (m : Nat) : b1 m ≤ m := Nat.and_le_left
theorem r1_b (m : Nat) {q : Nat} (hq : q < 20) : (r1 m).testBit q = (m.testBit q && m.testBit (q + 1) && !decide (q % 5 = 4)) := by
  rw [r1, Nat.testBit_and, Nat.testBit_and, mask_b q hq, Nat.testBit_div_two_pow]
theorem b1_b (m q : Nat) : (b1 m).testBit q = (m.testBit q && m.testBit (q + 5)) := by
  rw [b1, Nat.testBit_and, Nat.testBit_div_two_pow]
theorem s_s1 : ((nI 1 &&& 31 : Int32).toBitVec.smod 32).toNat = 1 := by decide
theorem s_s5 : ((nI 5 &&& 31 : Int32).toBitVec.smod 32).toNat = 5 := by decide
theorem shr1 {m : Nat} (hm : m < 2 ^ 31) : nI m >>> ((1 : Int32) &&& 31) = nI (m / 2 ^ 1) := pk_shrN hm _ 1 s_s1
theorem shr5 {m : Nat} (hm : m < 2 ^ 31) : nI m >>> ((5 : Int32) &&& 31) = nI (m / 2 ^ 5) := pk_shrN hm _ 5 s_s5
theorem bri_n {ch : Nat → Int32} {mm : Nat → Nat} : ∀ {n : Nat}, (∀ i, i < n → ch i = nI (mm i) ∧ mm i < 2 ^ 20) → fd (g_bri ch) 0 n = nI (orn (fun i => r1 (mm i)) n)
  | 0, _ => rfl
  | n + 1, h => by
    obtain ⟨e, hl⟩ := h n (by omega)
    rw [fd, bri_n (n := n) (fun i hi => h i (by omega)), g_bri, e, shr1 (by omega), fa_and, show (-541201 : Int32) = nI 4294426095 by decide, fa_and, fa_or]
    rfl
theorem bbe_n {ch : Nat → Int32} {mm : Nat → Nat} : ∀ {n : Nat}, (∀ i, i < n → ch i = nI (mm i) ∧ mm i < 2 ^ 20) → fd (g_bbe ch) 0 n = nI (orn (fun i => b1 (mm i)) n)
  | 0, _ => rfl
  | n + 1, h => by
    obtain ⟨e, hl⟩ := h n (by omega)
    rw [fd, bbe_n (n := n) (fun i hi => h i (by omega)), g_bbe, e, shr5 (by omega), fa_and, fa_or]
    rfl
theorem orn_tail {f : Nat → Nat} {n : Nat} (hz : ∀ i, n ≤ i → i < 8 → f i = 0) (hn : n ≤ 8) : orn f 8 = orn f n := by
  obtain ⟨d, hd⟩ := Nat.exists_eq_add_of_le hn
  rw [hd]
  have : ∀ e, e ≤ d → orn f (n + e) = orn f n := by
    intro e
    induction e with
    | zero => intro _; rfl
    | succ e ih => intro he; rw [show n + (e + 1) = (n + e) + 1 by omega, orn, ih (by omega), hz _ (by omega) (by omega), Nat.or_zero]
  exact this d (Nat.le_refl _)
theorem bc_orn (D : Nat) {r : Nat → Nat} : ∀ {n : Nat}, (∀ i j, i < j → j < n → r i &&& r j = 0) → bc1 (D &&& orn r n) 20 = smn (fun i => bc1 (D &&& r i) 20) n
  | 0, _ => by rw [orn, Nat.and_zero, bc_zero]; rfl
  | n + 1, h => by
    rw [orn, smn, ← bc_orn D (n := n) (fun i j h1 h2 => h i j h1 (by omega)), Nat.and_comm, bc_two, Nat.and_comm, Nat.and_comm (r n)]
    apply Nat.eq_of_testBit_eq
    intro q
    rw [Nat.testBit_and, Nat.zero_testBit]
    cases e : (orn r n).testBit q with
    | false => rfl
    | true =>
      obtain ⟨i, i1, i2⟩ := (orn_bit r q n).mp e
      have := h i n i1 (by omega)
      have : (r i &&& r n).testBit q = false := by rw [this, Nat.zero_testBit]
      rw [Nat.testBit_and, i2] at this
      exact this
theorem bc_smn (m : Nat) : ∀ N, bc1 m N = smn (fun q => if m.testBit q = true then 1 else 0) N
  | 0 => rfl
  | N + 1 => by rw [bc1_s, smn, bc_smn m N]
def UN (mm : Nat → Nat) (n x : Nat) : Nat := bc1 ((x ^^^ (x / 2 ^ 1)) &&& orn (fun i => r1 (mm i)) n) 20 + bc1 ((x ^^^ (x / 2 ^ 5)) &&& orn (fun i => b1 (mm i)) n) 20
theorem ucc_eq {x m : Nat} (hm : m < 2 ^ 20) : ucc x m = bc1 ((x ^^^ (x / 2 ^ 1)) &&& r1 m) 20 + bc1 ((x ^^^ (x / 2 ^ 5)) &&& b1 m) 20 := by
  rw [ucc, edges, bc_smn, bc_smn]
  congr 1
  · apply smn_congr
    intro q hq
    rw [rr, yz, yz, sans_b, sans_b, Nat.testBit_and, Nat.testBit_and, Nat.testBit_and, r1_b m hq, Nat.testBit_xor, Nat.testBit_div_two_pow]
    cases x.testBit q <;> cases x.testBit (q + 1) <;> cases m.testBit q <;> cases m.testBit (q + 1) <;> by_cases h : q % 5 = 4 <;> simp [h]
  · apply smn_congr
    intro q hq
    rw [ww, yz, yz, sans_b, sans_b, Nat.testBit_and, Nat.testBit_and, Nat.testBit_and, b1_b, Nat.testBit_xor, Nat.testBit_div_two_pow]
    by_cases h : q < 15
    · rw [if_pos h]
      cases x.testBit q <;> cases x.testBit (q + 5) <;> cases m.testBit q <;> cases m.testBit (q + 5) <;> simp
    · rw [if_neg h]
      have : m.testBit (q + 5) = false := Nat.testBit_lt_two_pow (Nat.lt_of_lt_of_le hm (Nat.pow_le_pow_right (by omega) (by omega)))
      rw [this]; simp
theorem un_h {n : Nat} {ch : Nat → Int32} {mm : Nat → Nat} (x : Nat) (hm : ∀ i, i < n → ch i = nI (mm i) ∧ mm i < 2 ^ 20) (hd : ∀ i j, i < n → j < n → i ≠ j → ∀ q, (mm i).testBit q = true → (mm j).testBit q = false) : fd (h_ur ch (nI x)) 0 n = nI (UN mm n x) := by
  have sub : ∀ (f : Nat → Nat), (∀ m q, (f m).testBit q = true → m.testBit q = true) → ∀ i j, i < j → j < n → f (mm i) &&& f (mm j) = 0 := fun f hf i j h1 h2 => by
    apply Nat.eq_of_testBit_eq
    intro q
    rw [Nat.testBit_and, Nat.zero_testBit]
    cases e : (f (mm i)).testBit q with
    | false => rfl
    | true =>
      have e2 := hd i j (by omega) h2 (by omega) q (hf _ q e)
      cases e3 : (f (mm j)).testBit q with
      | false => rfl
      | true => rw [hf _ q e3] at e2; exact absurd e2 (by decide)
  rw [ur_n x hm, UN, bc_orn _ (sub r1 (fun m q h => by rw [r1, Nat.testBit_and, Nat.testBit_and, Bool.and_eq_true, Bool.and_eq_true] at h; exact h.1.1)), bc_orn _ (sub b1 (fun m q h => by rw [b1, Nat.testBit_and, Bool.and_eq_true] at h; exact h.1)), ← smn_add, smn_congr (fun i hi => ucc_eq (hm i hi).2)]
theorem un_g {n : Nat} (hn : n ≤ 8) {ch : Nat → Int32} {mm : Nat → Nat} {x : Nat} (hx : x < 2 ^ 20) (hm : ∀ i, i < 8 → ch i = nI (mm i) ∧ mm i < 2 ^ 20) (hz : ∀ i, n ≤ i → i < 8 → mm i = 0) : g_un (fd (g_bri ch) 0 8) (fd (g_bbe ch) 0 8) (nI x) = nI (UN mm n x) := by
  have l1 : orn (fun i => r1 (mm i)) n < 2 ^ 20 := orn_lt (fun i hi => Nat.lt_of_le_of_lt (r1_le _) (hm i (by omega)).2)
  have l2 : orn (fun i => b1 (mm i)) n < 2 ^ 20 := orn_lt (fun i hi => Nat.lt_of_le_of_lt (b1_le _) (hm i (by omega)).2)
  rw [g_un, bri_n hm, bbe_n hm, orn_tail (fun i h1 h2 => by rw [hz i h1 h2]; rfl) hn, orn_tail (fun i h1 h2 => by rw [hz i h1 h2]; rfl) hn, shr1 (by omega), shr5 (by omega), fa_xor, fa_xor, fa_and, fa_and, ibc_n (Nat.lt_of_le_of_lt Nat.and_le_right l1), ibc_n (Nat.lt_of_le_of_lt Nat.and_le_right l2), nI_add, UN]
theorem UN_le (mm : Nat → Nat) (n x : Nat) : UN mm n x ≤ 40 := Nat.add_le_add (bc1_le _ 20) (bc1_le _ 20)
theorem UN_zero (mm : Nat → Nat) (n : Nat) : UN mm n 0 = 0 := by
  rw [UN, show (0 : Nat) ^^^ (0 / 2 ^ 1) = 0 by decide, Nat.zero_and, Nat.zero_and, bc_zero]
