/-! energies of states laid out on the grid -/
def eo (ow : Nat → Int32) (x q : Nat) : Int32 := if x.testBit q = true then ow q else 0
def ee (tr : Nat → Int32) (d x q : Nat) : Int32 := if x.testBit q = true ∧ x.testBit (q + d) = true then tr q else 0
def EC (ow tr tu : Nat → Int32) (x : Nat) : Int32 := sm (eo ow x) 20 + (sm (ee tr 1 x) 20 + sm (ee tu 5 x) 20)
theorem bb_hi {x q : Nat} (hx : x < 2 ^ 20) (hq : q < 32) : bb (nI x) q = x.testBit q := bb_nI hq
/-- one sum, one cell put in -/
theorem ee_in {tr : Nat → Int32} {d x y q : Nat} (hd : 0 < d) (hq : q < 20) (hx : x.testBit q = false) (hy : y.testBit q = true) (hxy : ∀ j, j ≠ q → y.testBit j = x.testBit j) : sm (ee tr d y) 20 = sm (ee tr d x) 20 + (if x.testBit (q + d) = true then tr q else 0) + (if d ≤ q ∧ x.testBit (q - d) = true then tr (q - d) else 0) := by
  have key : ∀ N, sm (ee tr d y) N = sm (ee tr d x) N + (if q < N ∧ x.testBit (q + d) = true then tr q else 0) + (if (d ≤ q ∧ q - d < N) ∧ x.testBit (q - d) = true then tr (q - d) else 0) := by
    intro N
    induction N with
    | zero => rw [sm, sm, if_neg (by omega), if_neg (by omega)]; rfl
    | succ N ih =>
      rw [sm, sm, ih, ee, ee]
      by_cases h1 : N = q
      · subst h1
        rw [hy, hx, hxy (N + d) (by omega)]
        by_cases h2 : (d ≤ N ∧ N - d < N) ∧ x.testBit (N - d) = true
        · rw [if_neg (by omega), if_pos h2, if_pos (show (d ≤ N ∧ N - d < N + 1) ∧ x.testBit (N - d) = true from ⟨by omega, h2.2⟩)]
          cases x.testBit (N + d) <;> simp
          grind
        · rw [if_neg (by omega), if_neg h2, if_neg (show ¬ ((d ≤ N ∧ N - d < N + 1) ∧ x.testBit (N - d) = true) from fun z => h2 ⟨by omega, z.2⟩)]
          cases x.testBit (N + d) <;> simp
      · rw [hxy N h1]
        by_cases h2 : N + d = q
        · rw [h2, hy, hx]
          have e : q - d = N := by omega
          rw [e, if_neg (show ¬ (q < N ∧ x.testBit (q + d) = true) by omega), if_neg (show ¬ (q < N + 1 ∧ x.testBit (q + d) = true) by omega), if_neg (show ¬ ((d ≤ q ∧ N < N) ∧ x.testBit N = true) by omega)]
          by_cases h3 : x.testBit N = true
          · rw [h3, if_pos ⟨rfl, rfl⟩, if_neg (by simp), if_pos ⟨⟨by omega, by omega⟩, rfl⟩]
          · rw [if_neg (fun z => h3 z.1), if_neg (fun z => h3 z.1), if_neg (fun z => h3 z.2)]
        · rw [hxy (N + d) h2]
          have c1 : (q < N + 1 ∧ x.testBit (q + d) = true) ↔ (q < N ∧ x.testBit (q + d) = true) := ⟨fun z => ⟨by omega, z.2⟩, fun z => ⟨by omega, z.2⟩⟩
          have c2 : ((d ≤ q ∧ q - d < N + 1) ∧ x.testBit (q - d) = true) ↔ ((d ≤ q ∧ q - d < N) ∧ x.testBit (q - d) = true) := ⟨fun z => ⟨by omega, z.2⟩, fun z => ⟨by omega, z.2⟩⟩
          simp only [c1, c2]
          grind
  rw [key 20]
  have c1 : (q < 20 ∧ x.testBit (q + d) = true) ↔ x.testBit (q + d) = true := ⟨fun z => z.2, fun z => ⟨hq, z⟩⟩
  have c2 : ((d ≤ q ∧ q - d < 20) ∧ x.testBit (q - d) = true) ↔ (d ≤ q ∧ x.testBit (q - d) = true) := ⟨fun z => ⟨z.1.1, z.2⟩, fun z => ⟨⟨z.1, by omega⟩, z.2⟩⟩
  simp only [c1, c2]
theorem eo_in {ow : Nat → Int32} {x y q : Nat} (hq : q < 20) (hx : x.testBit q = false) (hy : y.testBit q = true) (hxy : ∀ j, j ≠ q → y.testBit j = x.testBit j) : sm (eo ow y) 20 = sm (eo ow x) 20 + ow q := by
  refine sm_at (i := q) (fun j hj => ?_) ?_ hq
  · rw [eo, eo, hxy j hj]
  · rw [eo, eo, hx, hy, if_pos rfl, if_neg (by decide)]
    grind
theorem kg_b (ow tr tu : Nat → Int32) {x q : Nat} (hq : q < 20) : g_kg ow tr tu q (nI x) = ow q + (if x.testBit (q + 1) = true then tr q else 0) + (if x.testBit (q + 5) = true then tu q else 0) + (if 1 ≤ q ∧ x.testBit (q - 1) = true then tr (q - 1) else 0) + (if 5 ≤ q ∧ x.testBit (q - 5) = true then tu (q - 5) else 0) := by
  rw [g_kg, g_k1, g_k2, g_k3, g_k4, bb_nI (by omega), bb_nI (by omega), bb_nI (by omega), bb_nI (by omega)]
  repeat' split
  all_goals grind
theorem EC_in (ow tr tu : Nat → Int32) {x y q : Nat} (hq : q < 20) (hx : x.testBit q = false) (hy : y.testBit q = true) (hxy : ∀ j, j ≠ q → y.testBit j = x.testBit j) : EC ow tr tu y = EC ow tr tu x + g_kg ow tr tu q (nI x) := by
  rw [EC, EC, eo_in hq hx hy hxy, ee_in (d := 1) (by omega) hq hx hy hxy, ee_in (d := 5) (by omega) hq hx hy hxy, kg_b _ _ _ hq]
  grind
theorem kg_self (ow tr tu : Nat → Int32) {x y q : Nat} (hq : q < 20) (hxy : ∀ j, j ≠ q → y.testBit j = x.testBit j) : g_kg ow tr tu q (nI y) = g_kg ow tr tu q (nI x) := by
  rw [kg_b _ _ _ hq, kg_b _ _ _ hq, hxy (q + 1) (by omega), hxy (q + 5) (by omega)]
  congr 1
  · congr 1
    by_cases h : 1 ≤ q
    · rw [hxy (q - 1) (by omega)]
    · rw [if_neg (fun z => h z.1), if_neg (fun z => h z.1)]
  · by_cases h : 5 ≤ q
    · rw [hxy (q - 5) (by omega)]
    · rw [if_neg (fun z => h z.1), if_neg (fun z => h z.1)]
theorem hg_eq (ow tr tu : Nat → Int32) (c : Int32) {x q : Nat} (hq : q < 20) : g_hg ow tr tu q (nI x) (c + EC ow tr tu x) = c + EC ow tr tu (x ^^^ 2 ^ q) := by
  have hx : ∀ j, j ≠ q → (x ^^^ 2 ^ q).testBit j = x.testBit j := fun j hj => by
    rw [xor_bits, decide_eq_false (fun z => hj z.symm), Bool.xor_false]
  have hkk : (x ^^^ 2 ^ q).testBit q = !x.testBit q := by rw [xor_bits]; simp
  rw [g_hg, bb_nI (by omega)]
  cases h : x.testBit q with
  | true =>
    rw [if_pos rfl, kg_self ow tr tu hq (fun j hj => (hx j hj).symm)]
    have := EC_in ow tr tu hq (x := x ^^^ 2 ^ q) (y := x) (by rw [hkk, h]; rfl) h (fun j hj => (hx j hj).symm)
    rw [this]
    grind
  | false =>
    rw [if_neg (by decide), EC_in ow tr tu hq (x := x) (y := x ^^^ 2 ^ q) h (by rw [hkk, h]; rfl) hx]
    grind
/-! laying out -/
theorem eo_upd {ow : Nat → Int32} {q : Nat} (hq : q < 20) (h0 : ow q = 0) (v : Int32) (x : Nat) : sm (eo (upd ow q v) x) 20 = sm (eo ow x) 20 + (if x.testBit q = true then v else 0) := by
  refine sm_at (i := q) (fun j hj => ?_) ?_ hq
  · rw [eo, eo, pk_un hj]
  · rw [eo, eo, pk_us, h0]
    split
    · grind
    · grind
theorem ee_upd {tr : Nat → Int32} {d q : Nat} (hq : q < 20) (h0 : tr q = 0) (v : Int32) (x : Nat) : sm (ee (upd tr q v) d x) 20 = sm (ee tr d x) 20 + (if x.testBit q = true ∧ x.testBit (q + d) = true then v else 0) := by
  refine sm_at (i := q) (fun j hj => ?_) ?_ hq
  · rw [ee, ee, pk_un hj]
  · rw [ee, ee, pk_us, h0]
    split
    · grind
    · grind
def Own (mm : Nat → Nat) (n : Nat) (own : Nat → Nat) : Prop := ∀ i q, i < n → (mm i).testBit q = true → own q = i
theorem own_ex {mm : Nat → Nat} {n : Nat} (hn : n ≤ 8) (hd : ∀ i j, i < n → j < n → i ≠ j → ∀ q, (mm i).testBit q = true → (mm j).testBit q = false) : ∃ own, Own mm n own := by
  refine ⟨fun q => fa_first (fun i => (mm i).testBit q) 8, fun i q hi hq => ?_⟩
  have hl : fa_first (fun i => (mm i).testBit q) 8 ≤ i := by
    rcases Nat.lt_or_ge i (fa_first (fun i => (mm i).testBit q) 8) with z | z
    · exact absurd (hq.symm.trans (fa_first_no (fun i => (mm i).testBit q) 8 i z)) (by decide)
    · exact z
  have hy := fa_first_yes (fun i => (mm i).testBit q) 8 (by omega)
  show fa_first (fun i => (mm i).testBit q) 8 = i
  generalize fa_first (fun i => (mm i).testBit q) 8 = a at hl hy
  by_cases e : a = i
  · exact e
  · exact absurd (hy.symm.trans (hd i a hi (by omega) (fun z => e z.symm) q hq)) (by decide)
def Done (i j a b : Nat) : Prop := min a b < i ∨ (min a b = i ∧ max a b < j)
def Fresh (own : Nat → Nat) (i j : Nat) (p : (Nat → Int32) × (Nat → Int32)) : Prop := (∀ q, q < 20 → p.1 q ≠ 0 → Done i j (own q) (own (q + 1))) ∧ (∀ q, q < 20 → p.2 q ≠ 0 → Done i j (own q) (own (q + 5)))
def QQ (tb : Nat → Int32) (mm : Nat → Nat) (x i j : Nat) : Int32 := if ¬ tb (8 * i + j) = 0 ∧ x.testBit (lkf mm i j) = true ∧ x.testBit (lkt mm i j) = true then tb (8 * i + j) else 0
theorem adj_dist : ∀ a, a < 20 → ∀ b, b < 20 → (adjm a).testBit b = true → max a b = min a b + 1 ∨ max a b = min a b + 5 := by decide +kernel
theorem Fresh.up {own : Nat → Nat} {i j i2 j2 : Nat} {p : (Nat → Int32) × (Nat → Int32)} (h : Fresh own i j p) (hu : ∀ a b, Done i j a b → Done i2 j2 a b) : Fresh own i2 j2 p := ⟨fun q hq hz => hu _ _ (h.1 q hq hz), fun q hq hz => hu _ _ (h.2 q hq hz)⟩
theorem lay_one {n : Nat} {tb ch : Nat → Int32} {dd : Int32} {mm : Nat → Nat} (hn : n ≤ 8) (hsym : ∀ i j, i < 8 → j < 8 → tb (8 * i + j) = tb (8 * j + i)) (hm : ∀ i, i < n → ch i = nI (mm i) ∧ mm i < 2 ^ 20) (h : h_ff n tb ch dd mm = 0) {own : Nat → Nat} (ho : Own mm n own) {i d : Nat} (hi : i + 1 + d < n) {p : (Nat → Int32) × (Nat → Int32)} (hf : Fresh own i (i + 1 + d) p) : Fresh own i (i + 1 + (d + 1)) (g_oi tb (lkf mm) (lkt mm) i d p) ∧ ∀ x, sm (ee (g_oi tb (lkf mm) (lkt mm) i d p).1 1 x) 20 + sm (ee (g_oi tb (lkf mm) (lkt mm) i d p).2 5 x) 20 = sm (ee p.1 1 x) 20 + sm (ee p.2 5 x) 20 + QQ tb mm x i (i + 1 + d) := by
  rw [g_oi]
  simp only [QQ]
  generalize hj : i + 1 + d = j at hi hf
  have hu : ∀ a b, Done i j a b → Done i (i + 1 + (d + 1)) a b := fun a b z => by
    unfold Done at z ⊢; omega
  by_cases ht : tb (8 * i + j) = 0
  · rw [if_pos ht]
    refine ⟨hf.up hu, fun x => ?_⟩
    rw [if_neg (fun z => z.1 ht)]
    grind
  · rw [if_neg ht]
    obtain ⟨k1, k2, k3, k4, k5, -⟩ := lk_all hm h (a := i) (b := j) (by omega) hi (by rw [hsym _ _ (by omega) (by omega)]; exact ht)
    have o1 := ho i _ (by omega) k3
    have o2 := ho j _ hi k4
    generalize lkf mm i j = u at k1 k3 k5 o1
    generalize lkt mm i j = v at k2 k4 k5 o2
    have hdone : ¬ Done i j (own (min u v)) (own (max u v)) := by
      rcases Nat.le_total u v with z | z
      · rw [Nat.min_eq_left z, Nat.max_eq_right z, o1, o2]; unfold Done; omega
      · rw [Nat.min_eq_right z, Nat.max_eq_left z, o1, o2]; unfold Done; omega
    have hnew : Done i (i + 1 + (d + 1)) (own (min u v)) (own (max u v)) := by
      rcases Nat.le_total u v with z | z
      · rw [Nat.min_eq_left z, Nat.max_eq_right z, o1, o2]; unfold Done; omega
      · rw [Nat.min_eq_right z, Nat.max_eq_left z, o1, o2]; unfold Done; omega
    have hq : min u v < 20 := by omega
    have hbits : ∀ x : Nat, (x.testBit (min u v) = true ∧ x.testBit (max u v) = true) ↔ (x.testBit u = true ∧ x.testBit v = true) := fun x => by
      rcases Nat.le_total u v with z | z
      · rw [Nat.min_eq_left z, Nat.max_eq_right z]
      · rw [Nat.min_eq_right z, Nat.max_eq_left z]; exact and_comm
    rw [g_l1, g_l2]
    rcases adj_dist u k1 v k2 k5 with e | e
    · rw [if_pos e, if_pos e]
      rw [e] at hdone hnew
      have h0 : p.1 (min u v) = 0 := Decidable.byContradiction (fun z => hdone (hf.1 _ hq z))
      refine ⟨⟨fun q hq2 hz => ?_, fun q hq2 hz => hu _ _ (hf.2 q hq2 hz)⟩, fun x => ?_⟩
      · by_cases y : q = min u v
        · rw [y]; exact hnew
        · dsimp only at hz
          rw [pk_un y] at hz
          exact hu _ _ (hf.1 q hq2 hz)
      · dsimp only
        have hb := hbits x
        rw [e] at hb
        rw [ee_upd hq h0]
        by_cases y : x.testBit u = true ∧ x.testBit v = true
        · rw [if_pos (hb.mpr y), if_pos ⟨ht, y⟩]; grind
        · rw [if_neg (fun z => y (hb.mp z)), if_neg (fun z => y z.2)]; grind
    · rw [if_neg (by omega), if_neg (by omega)]
      rw [e] at hdone hnew
      have h0 : p.2 (min u v) = 0 := Decidable.byContradiction (fun z => hdone (hf.2 _ hq z))
      refine ⟨⟨fun q hq2 hz => hu _ _ (hf.1 q hq2 hz), fun q hq2 hz => ?_⟩, fun x => ?_⟩
      · by_cases y : q = min u v
        · rw [y]; exact hnew
        · dsimp only at hz
          rw [pk_un y] at hz
          exact hu _ _ (hf.2 q hq2 hz)
      · dsimp only
        have hb := hbits x
        rw [e] at hb
        rw [ee_upd hq h0]
        by_cases y : x.testBit u = true ∧ x.testBit v = true
        · rw [if_pos (hb.mpr y), if_pos ⟨ht, y⟩]; grind
        · rw [if_neg (fun z => y (hb.mp z)), if_neg (fun z => y z.2)]; grind
theorem lay_in {n : Nat} {tb ch : Nat → Int32} {dd : Int32} {mm : Nat → Nat} (hn : n ≤ 8) (hsym : ∀ i j, i < 8 → j < 8 → tb (8 * i + j) = tb (8 * j + i)) (hm : ∀ i, i < n → ch i = nI (mm i) ∧ mm i < 2 ^ 20) (h : h_ff n tb ch dd mm = 0) {own : Nat → Nat} (ho : Own mm n own) {i : Nat} {p : (Nat → Int32) × (Nat → Int32)} (hf : Fresh own i (i + 1) p) : ∀ {D : Nat}, i + 1 + D ≤ n → Fresh own i (i + 1 + D) (fd (g_oi tb (lkf mm) (lkt mm) i) p D) ∧ ∀ x, sm (ee (fd (g_oi tb (lkf mm) (lkt mm) i) p D).1 1 x) 20 + sm (ee (fd (g_oi tb (lkf mm) (lkt mm) i) p D).2 5 x) 20 = sm (ee p.1 1 x) 20 + sm (ee p.2 5 x) 20 + sm (fun d => QQ tb mm x i (i + 1 + d)) D
  | 0, _ => by
    rw [fd]
    exact ⟨hf, fun x => by rw [show sm (fun d => QQ tb mm x i (i + 1 + d)) 0 = 0 from rfl, Int32.add_zero]⟩
  | D + 1, hD => by
    obtain ⟨f1, f2⟩ := lay_in hn hsym hm h ho hf (D := D) (by omega)
    obtain ⟨g1, g2⟩ := lay_one hn hsym hm h ho (d := D) (by omega) f1
    rw [fd]
    refine ⟨g1, fun x => ?_⟩
    rw [g2 x, f2 x, show sm (fun d => QQ tb mm x i (i + 1 + d)) (D + 1) = sm (fun d => QQ tb mm x i (i + 1 + d)) D + QQ tb mm x i (i + 1 + D) from rfl]
    grind
def OO (tb : Nat → Int32) (mm : Nat → Nat) (x i : Nat) : Int32 := if x.testBit (lowb (mm i)) = true then tb (8 * i + i) else 0
theorem lay_all {n : Nat} {tb ch : Nat → Int32} {dd : Int32} {mm : Nat → Nat} (hn : n ≤ 8) (hsym : ∀ i j, i < 8 → j < 8 → tb (8 * i + j) = tb (8 * j + i)) (hm : ∀ i, i < n → ch i = nI (mm i) ∧ mm i < 2 ^ 20) (h : h_ff n tb ch dd mm = 0) {own : Nat → Nat} (ho : Own mm n own) {p0 : (Nat → Int32) × (Nat → Int32) × (Nat → Int32)} (z1 : ∀ q, q < 20 → p0.1 q = 0) (z2 : ∀ q, q < 20 → p0.2.1 q = 0) (z3 : ∀ q, q < 20 → p0.2.2 q = 0) : ∀ {N : Nat}, N ≤ n → (∀ q, q < 20 → (fd (g_oo n tb (fun i => lowb (mm i)) (lkf mm) (lkt mm)) p0 N).1 q ≠ 0 → own q < N) ∧ Fresh own N 0 (fd (g_oo n tb (fun i => lowb (mm i)) (lkf mm) (lkt mm)) p0 N).2 ∧ ∀ x, EC (fd (g_oo n tb (fun i => lowb (mm i)) (lkf mm) (lkt mm)) p0 N).1 (fd (g_oo n tb (fun i => lowb (mm i)) (lkf mm) (lkt mm)) p0 N).2.1 (fd (g_oo n tb (fun i => lowb (mm i)) (lkf mm) (lkt mm)) p0 N).2.2 x = sm (fun i => OO tb mm x i + sm (fun d => QQ tb mm x i (i + 1 + d)) (n - (i + 1))) N
  | 0, _ => by
    rw [fd]
    refine ⟨fun q hq hz => absurd (z1 q hq) hz, ⟨fun q hq hz => absurd (z2 q hq) hz, fun q hq hz => absurd (z3 q hq) hz⟩, fun x => ?_⟩
    rw [EC, sm_zero (fun q hq => by rw [eo, z1 q hq]; split <;> rfl), sm_zero (fun q hq => by rw [ee, z2 q hq]; split <;> rfl), sm_zero (fun q hq => by rw [ee, z3 q hq]; split <;> rfl)]
    rfl
  | N + 1, hN => by
    obtain ⟨f1, f2, f3⟩ := lay_all hn hsym hm h ho z1 z2 z3 (N := N) (by omega)
    rw [fd]
    generalize fd (g_oo n tb (fun i => lowb (mm i)) (lkf mm) (lkt mm)) p0 N = p at f1 f2 f3
    have hpos := st_pos hm h N (by omega)
    have hl := (hm N (by omega)).2
    have hb := lowb_bit hpos (by omega)
    have hlt := lowb_lt hpos hl (by omega)
    have hown := ho N _ (by omega) hb
    have h0 : p.1 (lowb (mm N)) = 0 := Decidable.byContradiction (fun z => by have := f1 _ hlt z; omega)
    obtain ⟨g1, g2⟩ := lay_in hn hsym hm h ho (i := N) (p := p.2) (f2.up (fun a b z => by unfold Done at z ⊢; omega)) (D := n - (N + 1)) (by omega)
    rw [g_oo]
    refine ⟨fun q hq hz => ?_, g1.up (fun a b z => by unfold Done at z ⊢; omega), fun x => ?_⟩
    · dsimp only at hz
      by_cases e : q = lowb (mm N)
      · rw [e, hown]; omega
      · rw [pk_un e] at hz
        have := f1 q hq hz
        omega
    · have f4 := f3 x
      have g4 := g2 x
      rw [EC] at f4 ⊢
      dsimp only
      rw [eo_upd hlt h0, g4, show sm (fun i => OO tb mm x i + sm (fun d => QQ tb mm x i (i + 1 + d)) (n - (i + 1))) (N + 1) = sm (fun i => OO tb mm x i + sm (fun d => QQ tb mm x i (i + 1 + d)) (n - (i + 1))) N + (OO tb mm x N + sm (fun d => QQ tb mm x N (N + 1 + d)) (n - (N + 1))) from rfl, ← f4, OO]
      grind
theorem tri (Q : Nat → Nat → Int32) : ∀ n, sm (fun i => sm (fun d => Q i (i + 1 + d)) (n - (i + 1))) n = sm (fun j => sm (fun i => Q i j) j) n
  | 0 => rfl
  | n + 1 => by
    have e1 : sm (fun i => sm (fun d => Q i (i + 1 + d)) (n + 1 - (i + 1))) n = sm (fun i => sm (fun d => Q i (i + 1 + d)) (n - (i + 1)) + Q i n) n := sm_congr (fun i hi => by
      rw [show n + 1 - (i + 1) = (n - (i + 1)) + 1 by omega, sm, show i + 1 + (n - (i + 1)) = n by omega])
    rw [sm, sm, e1, sm_add (fun i => sm (fun d => Q i (i + 1 + d)) (n - (i + 1))) (fun i => Q i n), tri Q n, show n + 1 - (n + 1) = 0 by omega, show sm (fun d => Q n (n + 1 + d)) 0 = 0 from rfl, Int32.add_zero]
