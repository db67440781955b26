/-! less known of the locals is enough -/
def ix_le (L L1 : ix_L) : Prop := L.length = L1.length ∧ ∀ (i : Nat) (v : ix_V), L[i]? = some (some v) → L1[i]? = some (some v)
theorem le_nil : ix_le [] [] := ⟨rfl, fun _ _ h => h⟩
theorem le_cc {a : Option ix_V} {l l1 : ix_L} (h : ix_le l l1) : ix_le (a :: l) (a :: l1) := ⟨by simp [h.1], fun i v hi => by
  cases i with
  | zero => exact hi
  | succ i => rw [List.getElem?_cons_succ] at hi ⊢; exact h.2 i v hi⟩
theorem le_nc {a : Option ix_V} {l l1 : ix_L} (h : ix_le l l1) : ix_le (none :: l) (a :: l1) := ⟨by simp [h.1], fun i v hi => by
  cases i with
  | zero => simp at hi
  | succ i => rw [List.getElem?_cons_succ] at hi ⊢; exact h.2 i v hi⟩
theorem le_set {L L1 : ix_L} (h : ix_le L L1) (a : Nat) (x : ix_V) : ix_le (L.set a (some x)) (L1.set a (some x)) := ⟨by simp [h.1], fun i v hi => by
  rw [List.getElem?_set] at hi ⊢
  by_cases e : a = i
  · subst e
    rw [if_pos rfl] at hi ⊢
    rw [← h.1]; exact hi
  · rw [if_neg e] at hi ⊢
    exact h.2 i v hi⟩
theorem le_st {pc : Nat} {e : ix_E} {L L1 : ix_L} {st : List ix_V} {w : ix_W} {pc1 : Nat} {L2 : ix_L} {st1 : List ix_V} {w1 : ix_W} (h : ix_le L L1) (hs : ix_st pc e L st w = some (pc1, L2, st1, w1)) : ∃ L3, ix_le L2 L3 ∧ ix_st pc e L1 st w = some (pc1, L3, st1, w1) := by
  obtain ⟨i, nx, a, b, j, v⟩ := e
  cases i <;> simp only [ix_st] at hs ⊢
  all_goals first | (cases hs; done) | skip
  all_goals (try unfold ix_push at hs ⊢)
  all_goals (try unfold ix_un at hs ⊢)
  all_goals (try unfold ix_bi at hs ⊢)
  all_goals (try unfold ix_dv at hs ⊢)
  all_goals (try unfold ix_ild at hs ⊢)
  all_goals (try unfold ix_ald at hs ⊢)
  all_goals (try unfold ix_ist at hs ⊢)
  all_goals (try unfold ix_inc at hs ⊢)
  all_goals (try unfold ix_br1 at hs ⊢)
  all_goals (try unfold ix_br2 at hs ⊢)
  all_goals (try unfold ix_get at hs ⊢)
  all_goals (try unfold ix_put at hs ⊢)
  all_goals (try unfold ix_iald at hs ⊢)
  all_goals (try unfold ix_iast at hs ⊢)
  all_goals (try unfold ix_alen at hs ⊢)
  all_goals (try unfold ix_dup at hs ⊢)
  all_goals (try unfold ix_dup2 at hs ⊢)
  all_goals (try unfold ix_tsw at hs ⊢)
  all_goals (repeat' split at hs)
  all_goals first | (cases hs; done) | skip
  all_goals first
    | (cases hs; exact ⟨_, h, rfl⟩)
    | (rename_i x hx; cases hs; rw [h.2 _ _ hx]; exact ⟨_, h, rfl⟩)
    | (rename_i x hx; cases hs; rw [h.2 _ _ hx]; exact ⟨_, le_set h _ _, rfl⟩)
    | (rename_i x r ha; cases hs; rw [← h.1, if_pos ha]; exact ⟨_, le_set h _ _, rfl⟩)
    | (cases hs; simp only [*]; exact ⟨_, h, rfl⟩)
    | (cases hs; simp [*]; exact h)
theorem le_run : ∀ (n k pc : Nat) (L L1 : ix_L) (st : List ix_V) (w : ix_W) (x : Option ix_V × ix_W), ix_le L L1 → ix_run n k pc L st w = some x → ix_run n k pc L1 st w = some x := by
  intro n
  induction n with
  | zero => intro k pc L L1 st w x _ h; exact absurd h (by simp [ix_run])
  | succ n ih =>
    intro k pc L L1 st w x hle h
    rw [ix_run] at h ⊢
    cases he : ix_lk k pc with
    | none => rw [he] at h; exact absurd h (by simp)
    | some e =>
      rw [he] at h
      dsimp only at h ⊢
      split at h
      · obtain ⟨z, h1, h2⟩ := Option.bind_eq_some_iff.mp h
        obtain ⟨z1, z2, z3, z4⟩ := z
        obtain ⟨L3, h3, h4⟩ := le_st hle h1
        rw [h4]; exact ih _ _ _ _ _ _ _ h3 h2
      · exact h
      · exact h
      · obtain ⟨z, h1, h2⟩ := Option.bind_eq_some_iff.mp h
        obtain ⟨y, h3, h4⟩ := Option.bind_eq_some_iff.mp h2
        rw [h1]; show Option.bind (ix_run n _ _ _ _ _) _ = _
        rw [h3]; exact ih _ _ _ _ _ _ _ hle h4
      · obtain ⟨z, h1, h2⟩ := Option.bind_eq_some_iff.mp h
        obtain ⟨y, h3, h4⟩ := Option.bind_eq_some_iff.mp h2
        rw [h1]; show Option.bind (ix_run n _ _ _ _ _) _ = _
        rw [h3]; exact ih _ _ _ _ _ _ _ hle h4
theorem Ev.fg {k pc : Nat} {L L1 : ix_L} {st : List ix_V} {w : ix_W} {x : Option ix_V × ix_W} (h : Ev k pc L st w x) (hle : ix_le L L1) : Ev k pc L1 st w x := by
  obtain ⟨n, hn⟩ := h
  exact ⟨n, le_run _ _ _ _ _ _ _ _ hle hn⟩
/-! small static methods -/
/-- a boolean as an int -/
def bz (b : Bool) : Int32 := if b = true then 1 else 0
theorem bz_t {b : Bool} (h : b = true) : bz b = 1 := by rw [bz, if_pos h]
theorem bz_f {b : Bool} (h : b = false) : bz b = 0 := by rw [h]; rfl
theorem bz_01 (b : Bool) : bz b = 0 ∨ bz b = 1 := by cases b <;> simp [bz]
theorem bz_0 {b : Bool} : bz b = 0 ↔ b = false := by cases b <;> simp [bz]
theorem Ev.on {k pc1 pc2 : Nat} {b : Bool} {L : ix_L} {st : List ix_V} {w : ix_W} {x : Option ix_V × ix_W} {d : Decidable (bz b = 0)} (h1 : b = false → Ev k pc1 L st w x) (h2 : b = true → Ev k pc2 L st w x) : Ev k (@ite _ (bz b = 0) d pc1 pc2) L st w x := by
  cases b with
  | false => rw [if_pos (bz_f rfl)]; exact h1 rfl
  | true => rw [if_neg (by rw [bz_t rfl]; decide)]; exact h2 rfl
theorem e_place (i j : Int32) (w : ix_W) : Cl m_X3_place [.inl i, .inl j] w (some (.inl (i * 8 + j))) w := by
  refine Ev.to 999 rfl ?_
  exact Ev.iret rfl rfl rfl rfl
theorem bb_t {s : Int32} {j : Nat} (h : ¬ ((s >>> (nI j &&& 31)) &&& 1 = 0)) : bb s j = true := decide_eq_true h
theorem bb_f {s : Int32} {j : Nat} (h : (s >>> (nI j &&& 31)) &&& 1 = 0) : bb s j = false := decide_eq_false (fun q => q h)
theorem e_isIn (s : Int32) (m : Nat) (w : ix_W) : Cl m_X4_isIn [.inl s, .inl (nI m)] w (some (.inl (bz (bb s m)))) w := by
  refine Ev.to 999 rfl ?_
  refine Ev.if_ (fun h => ?_) (fun h => ?_)
  · refine Ev.to 999 rfl ?_
    exact Ev.zret rfl rfl (by rw [bb_f h]; rfl) rfl (Or.inl rfl)
  · refine Ev.to 999 rfl ?_
    exact Ev.zret rfl rfl (by rw [bb_t h]; rfl) rfl (Or.inr rfl)
def inw (x l m : Int32) : Bool := decide (l ≤ x ∧ x ≤ m)
theorem i32_nlt {a b : Int32} : ¬ a < b ↔ b ≤ a := Int32.not_lt
theorem i32_nle {a b : Int32} : ¬ a ≤ b ↔ b < a := Int32.not_le
theorem e_isWithin (x l m : Int32) (w : ix_W) : Cl m_X4_isWithin [.inl x, .inl l, .inl m] w (some (.inl (bz (inw x l m)))) w := by
  refine Ev.to 999 rfl ?_
  refine Ev.if_ (fun h => ?_) (fun h => ?_)
  · refine Ev.to 999 rfl ?_
    exact Ev.zret rfl rfl (by rw [inw, bz_f (decide_eq_false (fun q => i32_nlt.mpr q.1 h))]) rfl (Or.inl rfl)
  · refine Ev.to 999 rfl ?_
    refine Ev.if_ (fun h2 => ?_) (fun h2 => ?_)
    · refine Ev.to 999 rfl ?_
      exact Ev.zret rfl rfl (by rw [inw, bz_f (decide_eq_false (fun q => i32_nlt.mpr q.2 h2))]) rfl (Or.inl rfl)
    · refine Ev.to 999 rfl ?_
      exact Ev.zret rfl rfl (by rw [inw, bz_t (decide_eq_true ⟨i32_nlt.mp h, i32_nlt.mp h2⟩)]) rfl (Or.inr rfl)
theorem m_in (x l m : Int32) (w : ix_W) : Cl m_X5_in [.inl x, .inl l, .inl m] w (some (.inl (bz (inw x l m)))) w := by
  refine Ev.to 999 rfl ?_
  refine Ev.if_ (fun h => ?_) (fun h => ?_)
  · refine Ev.to 999 rfl ?_
    exact Ev.zret rfl rfl (by rw [inw, bz_f (decide_eq_false (fun q => i32_nlt.mpr q.1 h))]) rfl (Or.inl rfl)
  · refine Ev.to 999 rfl ?_
    refine Ev.if_ (fun h2 => ?_) (fun h2 => ?_)
    · refine Ev.to 999 rfl ?_
      exact Ev.zret rfl rfl (by rw [inw, bz_f (decide_eq_false (fun q => i32_nlt.mpr q.2 h2))]) rfl (Or.inl rfl)
    · refine Ev.to 999 rfl ?_
      exact Ev.zret rfl rfl (by rw [inw, bz_t (decide_eq_true ⟨i32_nlt.mp h, i32_nlt.mp h2⟩)]) rfl (Or.inr rfl)
theorem e_isPull (x : Int32) (w : ix_W) : Cl m_X4_isPull [.inl x] w (some (.inl (bz (inw x 0 1000)))) w := by
  refine Ev.to 999 rfl ?_
  refine Ev.callS rfl rfl (e_isWithin _ _ _ _) ?_
  exact Ev.zret rfl rfl rfl rfl (bz_01 _)
theorem m_isPull (x : Int32) (w : ix_W) : Cl m_X5_isPull [.inl x] w (some (.inl (bz (inw x 0 1000)))) w := by
  refine Ev.to 999 rfl ?_
  refine Ev.callS rfl rfl (m_in _ _ _ _) ?_
  exact Ev.zret rfl rfl rfl rfl (bz_01 _)
def iabs (x : Int32) : Int32 := if 0 ≤ x then x else -x
def imin (x y : Int32) : Int32 := if y < x then y else x
def imax (x y : Int32) : Int32 := if x < y then y else x
theorem m_size (x : Int32) (w : ix_W) : Cl m_X5_size [.inl x] w (some (.inl (iabs x))) w := by
  refine Ev.to 999 rfl ?_
  refine Ev.if_ (fun h => ?_) (fun h => ?_)
  · refine Ev.to 999 rfl ?_
    exact Ev.iret rfl rfl (by rw [iabs, if_pos h]) rfl
  · refine Ev.to 999 rfl ?_
    exact Ev.iret rfl rfl (by rw [iabs, if_neg h]) rfl
theorem j_abs (x : Int32) (w : ix_W) : Cl m_J9_abs_0f7a4 [.inl x] w (some (.inl (iabs x))) w := by
  refine Ev.to 999 rfl ?_
  refine Ev.if_ (fun h => ?_) (fun h => ?_)
  · refine Ev.to 999 rfl ?_
    exact Ev.iret rfl rfl (by rw [iabs, if_pos h]) rfl
  · refine Ev.to 999 rfl ?_
    exact Ev.iret rfl rfl (by rw [iabs, if_neg h]) rfl
theorem j_min (x y : Int32) (w : ix_W) : Cl m_J9_min_7cf53 [.inl x, .inl y] w (some (.inl (imin x y))) w := by
  refine Ev.to 999 rfl ?_
  refine Ev.if_ (fun h => ?_) (fun h => ?_)
  · refine Ev.to 999 rfl ?_
    exact Ev.iret rfl rfl (by rw [imin, if_pos h]) rfl
  · refine Ev.to 999 rfl ?_
    exact Ev.iret rfl rfl (by rw [imin, if_neg h]) rfl
theorem j_max (x y : Int32) (w : ix_W) : Cl m_J9_max_7cf53 [.inl x, .inl y] w (some (.inl (imax x y))) w := by
  refine Ev.to 999 rfl ?_
  refine Ev.if_ (fun h => ?_) (fun h => ?_)
  · refine Ev.to 999 rfl ?_
    exact Ev.iret rfl rfl (by rw [imax, if_pos h]) rfl
  · refine Ev.to 999 rfl ?_
    exact Ev.iret rfl rfl (by rw [imax, if_neg h]) rfl
theorem j_low (x : Int32) (w : ix_W) : Cl m_J6_lowestOneBit_0f7a4 [.inl x] w (some (.inl (x &&& (-x)))) w := by
  refine Ev.to 999 rfl ?_
  exact Ev.iret rfl rfl rfl rfl
def ius (x y : Int32) : Int32 := (x.toUInt32 >>> (y.toUInt32 &&& Int32.toUInt32 31)).toInt32
def ibc1 (x : Int32) : Int32 := x - (ius x 1 &&& 1431655765)
def ibc2 (x : Int32) : Int32 := (x &&& 858993459) + (ius x 2 &&& 858993459)
def ibc3 (x : Int32) : Int32 := (x + ius x 4) &&& 252645135
def ibc4 (x : Int32) : Int32 := x + ius x 8
def ibc5 (x : Int32) : Int32 := x + ius x 16
def ibc (x : Int32) : Int32 := ibc5 (ibc4 (ibc3 (ibc2 (ibc1 x)))) &&& 63
theorem j_bc (x : Int32) (w : ix_W) : Cl m_J6_bitCount_0f7a4 [.inl x] w (some (.inl (ibc x))) w := by
  rw [ibc]
  refine Ev.to 10 (L1 := [some (.inl (ibc1 x))]) (st1 := []) rfl ?_
  generalize ibc1 x = x1
  refine Ev.to 24 (L1 := [some (.inl (ibc2 x1))]) (st1 := []) rfl ?_
  generalize ibc2 x1 = x2
  refine Ev.to 34 (L1 := [some (.inl (ibc3 x2))]) (st1 := []) rfl ?_
  generalize ibc3 x2 = x3
  refine Ev.to 41 (L1 := [some (.inl (ibc4 x3))]) (st1 := []) rfl ?_
  generalize ibc4 x3 = x4
  refine Ev.to 48 (L1 := [some (.inl (ibc5 x4))]) (st1 := []) rfl ?_
  generalize ibc5 x4 = x5
  refine Ev.to 999 rfl ?_
  exact Ev.iret rfl rfl rfl rfl
def itz5 (y r : Int32) : Int32 := r + ius y 1
def itz4 (y r : Int32) : Int32 := if y ≤ 4 then itz5 y r else itz5 (ius y 2) (r + 2)
def itz3 (y r : Int32) : Int32 := if y ≤ 16 then itz4 y r else itz4 (ius y 4) (r + 4)
def itz2 (y r : Int32) : Int32 := if y ≤ 256 then itz3 y r else itz3 (ius y 8) (r + 8)
def itz1 (y r : Int32) : Int32 := if y ≤ 65536 then itz2 y r else itz2 (ius y 16) (r + 16)
def itz0 (y : Int32) : Int32 := if 0 < y then itz1 y 1 else y &&& 32
def itz (x : Int32) : Int32 := itz0 ((x ^^^ (-1)) &&& (x - 1))
theorem j_tz5 (y r : Int32) (w : ix_W) : Ev m_J6_numberOfTrailingZeros_0f7a4 74 [some (.inl y), some (.inl r)] [] w (some (.inl (itz5 y r)), w) := by
  refine Ev.to 999 rfl ?_
  exact Ev.iret rfl rfl rfl rfl
theorem j_tz4 (y r : Int32) (w : ix_W) : Ev m_J6_numberOfTrailingZeros_0f7a4 62 [some (.inl y), some (.inl r)] [] w (some (.inl (itz4 y r)), w) := by
  refine Ev.to 74 rfl ?_
  refine Ev.if_ (fun h => ?_) (fun h => ?_)
  · rw [itz4, if_pos h]; exact j_tz5 _ _ _
  · rw [itz4, if_neg h]
    refine Ev.to 74 (L1 := [_, _]) rfl ?_
    exact j_tz5 _ _ _
theorem j_tz3 (y r : Int32) (w : ix_W) : Ev m_J6_numberOfTrailingZeros_0f7a4 49 [some (.inl y), some (.inl r)] [] w (some (.inl (itz3 y r)), w) := by
  refine Ev.to 62 rfl ?_
  refine Ev.if_ (fun h => ?_) (fun h => ?_)
  · rw [itz3, if_pos h]; exact j_tz4 _ _ _
  · rw [itz3, if_neg h]
    refine Ev.to 62 (L1 := [_, _]) rfl ?_
    exact j_tz4 _ _ _
theorem j_tz2 (y r : Int32) (w : ix_W) : Ev m_J6_numberOfTrailingZeros_0f7a4 34 [some (.inl y), some (.inl r)] [] w (some (.inl (itz2 y r)), w) := by
  refine Ev.to 49 rfl ?_
  refine Ev.if_ (fun h => ?_) (fun h => ?_)
  · rw [itz2, if_pos h]; exact j_tz3 _ _ _
  · rw [itz2, if_neg h]
    refine Ev.to 49 (L1 := [_, _]) rfl ?_
    exact j_tz3 _ _ _
theorem j_tz1 (y r : Int32) (w : ix_W) : Ev m_J6_numberOfTrailingZeros_0f7a4 19 [some (.inl y), some (.inl r)] [] w (some (.inl (itz1 y r)), w) := by
  refine Ev.to 34 rfl ?_
  refine Ev.if_ (fun h => ?_) (fun h => ?_)
  · rw [itz1, if_pos h]; exact j_tz2 _ _ _
  · rw [itz1, if_neg h]
    refine Ev.to 34 (L1 := [_, _]) rfl ?_
    exact j_tz2 _ _ _
theorem j_tz (x : Int32) (w : ix_W) : Cl m_J6_numberOfTrailingZeros_0f7a4 [.inl x] w (some (.inl (itz x))) w := by
  refine Ev.to 8 (L1 := [some (.inl ((x ^^^ (-1)) &&& (x - 1))), none]) (st1 := []) rfl ?_
  rw [itz]
  generalize (x ^^^ (-1)) &&& (x - 1) = y
  refine Ev.to 999 rfl ?_
  refine Ev.if_ (fun h => ?_) (fun h => ?_)
  · rw [itz0, if_pos h]
    refine Ev.to 19 (L1 := [_, _]) rfl ?_
    exact j_tz1 _ _ _
  · rw [itz0, if_neg h]
    refine Ev.to 999 rfl ?_
    exact Ev.iret rfl rfl rfl rfl
/-! numbers -/
theorem ni8 (i j : Nat) : nI i * 8 + nI j = nI (8 * i + j) := by
  rw [show (8 : Int32) = nI 8 from rfl, pk_mul, nI_add, Nat.mul_comm]
theorem ni8' (i j : Nat) : 8 * nI i + nI j = nI (8 * i + j) := by
  rw [show (8 : Int32) = nI 8 from rfl, pk_mul, nI_add]
theorem pw_n {n : Nat} (h : n ≤ 8) : (1 : Int32) <<< (nI n &&& 31) = nI (2 ^ n) := by
  have : ∀ n, n < 9 → (1 : Int32) <<< (nI n &&& 31) = nI (2 ^ n) := by decide +kernel
  exact this n (by omega)
theorem nI_ng {i n : Nat} (h : i < n) (hn : n ≤ 1000000) : ¬ nI n ≤ nI i := nI_ge h (by omega)
theorem nI_gg {n : Nat} (hn : n ≤ 1000000) : nI n ≤ nI n := nI_le (Nat.le_refl n) (by omega)
/-! Weights -/
theorem e_size {n : Nat} {c : Int32} {tb tn : Nat → Int32} {tl : Nat} {se on : Nat → Int32} {dd : Int32} {ch ro ot ow tr tu ld : Nat → Int32} {lc : Nat} {cc br bw : Int32} : Cl m_X3_size [.inr 1] (cw n c tb tn tl se on dd ch ro ot ow tr tu ld lc cc br bw) (some (.inl (nI n))) (cw n c tb tn tl se on dd ch ro ot ow tr tu ld lc cc br bw) := by
  refine Ev.to 999 rfl ?_
  exact Ev.iret rfl rfl rfl rfl
theorem e_states {n : Nat} {c : Int32} {tb tn : Nat → Int32} {tl : Nat} {se on : Nat → Int32} {dd : Int32} {ch ro ot ow tr tu ld : Nat → Int32} {lc : Nat} {cc br bw : Int32} (hn : n ≤ 8) : Cl m_X3_states [.inr 1] (cw n c tb tn tl se on dd ch ro ot ow tr tu ld lc cc br bw) (some (.inl (nI (2 ^ n)))) (cw n c tb tn tl se on dd ch ro ot ow tr tu ld lc cc br bw) := by
  refine Ev.to 999 rfl ?_
  exact Ev.iret rfl rfl (congrArg Sum.inl (pw_n hn)) rfl
theorem e_constant {n : Nat} {c : Int32} {tb tn : Nat → Int32} {tl : Nat} {se on : Nat → Int32} {dd : Int32} {ch ro ot ow tr tu ld : Nat → Int32} {lc : Nat} {cc br bw : Int32} : Cl m_X3_constant [.inr 1] (cw n c tb tn tl se on dd ch ro ot ow tr tu ld lc cc br bw) (some (.inl c)) (cw n c tb tn tl se on dd ch ro ot ow tr tu ld lc cc br bw) := by
  refine Ev.to 999 rfl ?_
  exact Ev.iret rfl rfl rfl rfl
theorem e_between {n : Nat} {c : Int32} {tb tn : Nat → Int32} {tl : Nat} {se on : Nat → Int32} {dd : Int32} {ch ro ot ow tr tu ld : Nat → Int32} {lc : Nat} {cc br bw : Int32} {i j : Nat} (hi : i < 8) (hj : j < 8) : Cl m_X3_between [.inr 1, .inl (nI i), .inl (nI j)] (cw n c tb tn tl se on dd ch ro ot ow tr tu ld lc cc br bw) (some (.inl (tb (8 * i + j)))) (cw n c tb tn tl se on dd ch ro ot ow tr tu ld lc cc br bw) := by
  refine Ev.to 999 rfl ?_
  refine Ev.callS rfl rfl (e_place _ _ _) ?_
  refine Ev.aldE (8 * i + j) (ni8 i j) rfl rfl (by omega) (by decide) ?_
  exact Ev.iret rfl rfl rfl rfl
theorem e_setBetween {n : Nat} {c : Int32} {tb tn : Nat → Int32} {tl : Nat} {se on : Nat → Int32} {dd : Int32} {ch ro ot ow tr tu ld : Nat → Int32} {lc : Nat} {cc br bw : Int32} {i j : Nat} (hi : i < 8) (hj : j < 8) (x : Int32) : Cl m_X3_setBetween [.inr 1, .inl (nI i), .inl (nI j), .inl x] (cw n c tb tn tl se on dd ch ro ot ow tr tu ld lc cc br bw) none (cw n c (upd (upd tb (8 * i + j) x) (8 * j + i) x) tn tl se on dd ch ro ot ow tr tu ld lc cc br bw) := by
  refine Ev.to 999 rfl ?_
  refine Ev.callS rfl rfl (e_place _ _ _) ?_
  refine Ev.to 999 rfl ?_
  refine Ev.astE (8 * i + j) (ni8 i j) rfl rfl (by omega) (by decide) ?_
  refine Ev.to 999 rfl ?_
  refine Ev.callS rfl rfl (e_place _ _ _) ?_
  refine Ev.to 999 rfl ?_
  refine Ev.astE (8 * j + i) (ni8 j i) rfl rfl (by omega) (by decide) ?_
  exact Ev.vret rfl rfl rfl
def g_gs (tb : Nat → Int32) (i : Nat) (o : Int32) (j : Nat) (a : Int32) : Int32 := if j ≠ i ∧ bb o j = true then a + tb (8 * i + j) else a
def g_gain (n : Nat) (tb : Nat → Int32) (i : Nat) (o : Int32) : Int32 := fd (g_gs tb i o) (tb (8 * i + i)) n
theorem e_gainOf {n : Nat} {c : Int32} {tb tn : Nat → Int32} {tl : Nat} {se on : Nat → Int32} {dd : Int32} {ch ro ot ow tr tu ld : Nat → Int32} {lc : Nat} {cc br bw : Int32} (hn : n ≤ 8) {i : Nat} (hi : i < 8) (o : Int32) : Cl m_X3_gainOf [.inr 1, .inl (nI i), .inl o] (cw n c tb tn tl se on dd ch ro ot ow tr tu ld lc cc br bw) (some (.inl (g_gain n tb i o))) (cw n c tb tn tl se on dd ch ro ot ow tr tu ld lc cc br bw) := by
  refine Ev.to 999 rfl ?_
  refine Ev.callV (rest := []) rfl rfl (e_between hi hi) ?_
  refine Ev.to 10 (L1 := [_, _, _, _, _]) (st1 := []) rfl ?_
  refine Ev.loop (fun j => [some (.inr 1), some (.inl (nI i)), some (.inl o), some (.inl (fd (g_gs tb i o) (tb (8 * i + i)) j)), some (.inl (nI j))]) (fun _ => (cw n c tb tn tl se on dd ch ro ot ow tr tu ld lc cc br bw)) (fun _ => True) 0 n (Nat.zero_le n) trivial (fun j _ hj _ kk => ?_) (fun _ => ?_)
  · refine Ev.to 999 rfl ?_
    refine Ev.ff (nI_ng hj (by omega)) ?_
    refine Ev.to 999 rfl ?_
    have kk := kk trivial
    rw [nI_succ, fd] at kk
    refine Ev.if_ (fun h => ?_) (fun h => ?_)
    · rw [nI_eq (by omega) (by omega)] at h
      rw [g_gs, if_neg (fun q => q.1 h)] at kk
      exact Ev.to 10 (L1 := [_, _, _, _, _]) rfl kk
    · rw [nI_eq (by omega) (by omega)] at h
      refine Ev.to 999 rfl ?_
      refine Ev.callS (rest := []) rfl rfl (e_isIn _ _ _) ?_
      refine Ev.to 999 rfl ?_
      refine Ev.on (fun hb => ?_) (fun hb => ?_)
      · rw [g_gs, if_neg (fun q => by rw [hb] at q; exact absurd q.2 (by decide))] at kk
        exact Ev.to 10 (L1 := [_, _, _, _, _]) rfl kk
      · rw [g_gs, if_pos ⟨h, hb⟩] at kk
        refine Ev.to 999 rfl ?_
        refine Ev.callV rfl rfl (e_between hi (by omega)) ?_
        exact Ev.to 10 (L1 := [_, _, _, _, _]) rfl kk
  · refine Ev.to 999 rfl ?_
    refine Ev.tt (nI_gg (by omega)) ?_
    refine Ev.to 999 rfl ?_
    exact Ev.iret rfl rfl rfl rfl
