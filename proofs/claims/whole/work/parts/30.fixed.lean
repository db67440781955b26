/-! fixed -/
theorem vf_eq {n : Nat} (tb : Nat → Int32) (i : Nat) {s o : Int32} (ho : ∀ j, j < n → bb o j = true → bb s j = true) : g_vf n tb i s o = h_mb n tb i s o := by
  have e1 : g_gain n tb i o = fd (h_mo tb i s o) (tb (8 * i + i)) n := by
    rw [g_gain]
    apply fd_congr
    intro j a hj
    rw [g_gs, h_mo, h_w]
    by_cases e : i = j
    · rw [if_pos e, if_neg (fun q => q.1 e.symm)]
      repeat' split
      all_goals first | rfl | rw [Int32.add_zero]
    · rw [if_neg e]
      cases hb : bb o j with
      | true => rw [if_pos ⟨fun q => e q.symm, rfl⟩, ho j hj hb, if_pos rfl, if_pos rfl]
      | false =>
        rw [if_neg (by simp), if_neg (show ¬ (false = true) by decide), Int32.add_zero]
        split <;> rfl
  have e2 : fd (g_vb tb i s) 0 n = fd (h_ml tb i s) 0 n := by
    apply fd_congr
    intro j a _
    rw [g_vb, h_ml, h_w]
    by_cases e : i = j
    · rw [if_pos e, if_pos (Or.inl e.symm), if_pos (show (0 : Int32) ≤ 0 by decide), Int32.add_zero]
      split <;> rfl
    · rw [if_neg e]
      cases hb : bb s j with
      | true => rw [if_pos (Or.inr rfl), if_pos rfl]
      | false =>
        rw [if_neg (fun q => q.elim (fun y => e y.symm) (by decide)), if_neg (by decide)]
        congr 1
        generalize tb (8 * i + j) = y
        rw [imin]
        by_cases z : 0 ≤ y
        · rw [if_pos z]
          split
          · rfl
          · rename_i z2
            rw [i32_nlt] at z2
            rw [fa_le] at z z2
            rw [fa_eq]; omega
        · rw [if_neg z, if_neg (fun q => z (by rw [fa_lt] at q; rw [fa_le]; omega))]
  have e3 : fd (g_va tb i s) 0 n = fd (h_mm tb i s) 0 n := by
    apply fd_congr
    intro j a _
    rw [g_va, h_mm, h_w]
    by_cases e : i = j
    · rw [if_pos e, if_pos (Or.inl e.symm), if_pos (show (0 : Int32) ≤ 0 by decide), Int32.add_zero]
      split <;> rfl
    · rw [if_neg e]
      cases hb : bb s j with
      | true => rw [if_pos (Or.inr rfl), if_pos rfl]
      | false =>
        rw [if_neg (fun q => q.elim (fun y => e y.symm) (by decide)), if_neg (by decide)]
        congr 1
        generalize tb (8 * i + j) = y
        rw [imax]
        by_cases z : y ≤ 0
        · rw [if_pos z]
          split
          · rfl
          · rename_i z2
            rw [i32_nlt] at z2
            rw [fa_le] at z z2
            rw [fa_eq]; omega
        · rw [if_neg z, if_neg (fun q => z (by rw [fa_lt] at q; rw [fa_le]; omega))]
  rw [g_vf, h_mb, e1, e2, e3]
theorem or_bit (s : Int32) {i j : Nat} (hi : i < 32) (hj : j < 32) : bb (s ||| ((1 : Int32) <<< (nI i &&& 31))) j = (bb s j || decide (j = i)) := by
  rw [bb_bt hj, bb_bt hj, b_or, b_shl i hi 1 hj, bt_1]
  congr 1
  by_cases h : j = i
  · rw [decide_eq_true h, decide_eq_true (by omega), decide_eq_true (by omega)]; rfl
  · rw [decide_eq_false h]
    by_cases h2 : i ≤ j
    · rw [decide_eq_false (show ¬ j - i = 0 by omega), Bool.and_false]
    · rw [decide_eq_false h2, Bool.false_and]
theorem or_none (s : Int32) {i : Nat} (hi : i < 32) : s ||| ((0 : Int32) <<< (nI i &&& 31)) = s := by
  apply b_ext
  intro j hj
  rw [b_or, b_shl i hi 0 hj, b_0, Bool.and_false, Bool.or_false]
theorem fv_01 (n : Nat) (tb : Nat → Int32) (i : Nat) (s o : Int32) : h_fv n tb i s o = -1 ∨ (bb s i = false ∧ (h_fv n tb i s o = 0 ∨ h_fv n tb i s o = 1)) := by
  unfold h_fv h_mb
  cases bb s i with
  | true => exact Or.inl (if_pos rfl)
  | false =>
    rw [if_neg (by decide)]
    repeat' split
    · exact Or.inl rfl
    · exact Or.inr ⟨rfl, Or.inr rfl⟩
    · exact Or.inr ⟨rfl, Or.inl rfl⟩
def Sub (n : Nat) (p : Int32 × Int32 × Int32) : Prop := ∀ j, j < n → bb p.2.1 j = true → bb p.1 j = true
theorem fx_sub {n : Nat} (hn : n ≤ 8) (tb : Nat → Int32) {i : Nat} (hi : i < n) {p : Int32 × Int32 × Int32} (h : Sub n p) : g_fx n tb i p = h_fx n tb i p ∧ Sub n (h_fx n tb i p) := by
  have e : g_fv n tb i p.1 p.2.1 = h_fv n tb i p.1 p.2.1 := by rw [g_fv, h_fv, vf_eq tb i h]
  refine ⟨by rw [g_fx, h_fx, e], ?_⟩
  rw [h_fx]
  rcases fv_01 n tb i p.1 p.2.1 with q | ⟨-, q⟩
  · rw [if_pos q]; exact h
  · rw [if_neg (fun z => by rcases q with q | q <;> rw [q] at z <;> exact absurd z (by decide))]
    intro j hj hb
    dsimp only at hb ⊢
    rw [or_bit _ (by omega) (by omega)]
    rcases q with q | q
    · rw [q, or_none _ (by omega)] at hb
      rw [h j hj hb]; rfl
    · rw [q, or_bit _ (by omega) (by omega), Bool.or_eq_true] at hb
      rcases hb with hb | hb
      · rw [h j hj hb]; rfl
      · rw [hb, Bool.or_true]
theorem fxs_sub {n : Nat} (hn : n ≤ 8) (tb : Nat → Int32) {p : Int32 × Int32 × Int32} (h : Sub n p) : ∀ {m : Nat}, m ≤ n → fd (g_fx n tb) p m = fd (h_fx n tb) p m ∧ Sub n (fd (h_fx n tb) p m)
  | 0, _ => by rw [fd, fd]; exact ⟨rfl, h⟩
  | m + 1, hm => by
    obtain ⟨e, hs⟩ := fxs_sub hn tb h (m := m) (by omega)
    rw [fd, fd, e]
    exact fx_sub hn tb (by omega) hs
theorem fo_sub {n : Nat} (hn : n ≤ 8) (tb : Nat → Int32) : ∀ r, fd (g_fo n tb) (0, 0, 1) r = fd (h_fo n tb) (0, 0, 1) r ∧ Sub n (fd (h_fo n tb) (0, 0, 1) r)
  | 0 => by
    rw [fd, fd]
    exact ⟨rfl, fun j _ hb => hb⟩
  | r + 1 => by
    obtain ⟨e, hs⟩ := fo_sub hn tb r
    rw [fd, fd, e, g_fo, h_fo]
    split
    · exact ⟨rfl, hs⟩
    · exact fxs_sub hn tb (p := (_, _, 0)) hs (Nat.le_refl n)
def Grow (n : Nat) (s o : Int32) (p : Int32 × Int32 × Int32) : Prop := (∀ j, j < n → bb s j = true → bb p.1 j = true) ∧ (p = (s, o, 0) ∨ (p.2.2 = 1 ∧ ∃ j, j < n ∧ bb s j = false ∧ bb p.1 j = true))
theorem fx_grow {n : Nat} (hn : n ≤ 8) (tb : Nat → Int32) (s o : Int32) : ∀ {m : Nat}, m ≤ n → Grow n s o (fd (h_fx n tb) (s, o, 0) m)
  | 0, _ => ⟨fun _ _ h => h, Or.inl rfl⟩
  | m + 1, hm => by
    have ih := fx_grow hn tb s o (m := m) (by omega)
    rw [fd]
    generalize fd (h_fx n tb) (s, o, 0) m = p at ih ⊢
    obtain ⟨h1, h2⟩ := ih
    rw [h_fx]
    rcases fv_01 n tb m p.1 p.2.1 with q | ⟨q0, q⟩
    · rw [if_pos q]; exact ⟨h1, h2⟩
    · rw [if_neg (fun z => by rcases q with q | q <;> rw [q] at z <;> exact absurd z (by decide))]
      refine ⟨fun j hj hb => ?_, Or.inr ⟨rfl, m, by omega, ?_, ?_⟩⟩
      · dsimp only
        rw [or_bit _ (by omega) (by omega), h1 j hj hb]; rfl
      · cases z : bb s m with
        | false => rfl
        | true => rw [h1 m (by omega) z] at q0; exact absurd q0 (by decide)
      · dsimp only
        rw [or_bit _ (by omega) (by omega), decide_eq_true rfl, Bool.or_true]
theorem cnt_up {n : Nat} {p q : Nat → Bool} (h : ∀ j, j < n → p j = true → q j = true) {k : Nat} (hk : k < n) (h1 : p k = false) (h2 : q k = true) : fb_ct p n + 1 ≤ fb_ct q n := by
  have e := fb_ct_upd p true (i := k) hk
  rw [h1, if_neg (by decide), if_pos rfl] at e
  have := fb_ct_sub (p := fun j => if j = k then true else p j) (q := q) (n := n) (fun j hj hb => by
    by_cases z : j = k
    · rw [z, h2]
    · simp only [if_neg z] at hb; exact h j hj hb)
  omega
theorem fo_cnt {n : Nat} (hn : n ≤ 8) (tb : Nat → Int32) : ∀ r, (fd (h_fo n tb) (0, 0, 1) r).2.2 = 0 ∨ ((fd (h_fo n tb) (0, 0, 1) r).2.2 = 1 ∧ r ≤ fb_ct (fun j => bb (fd (h_fo n tb) (0, 0, 1) r).1 j) n)
  | 0 => Or.inr ⟨rfl, Nat.zero_le _⟩
  | r + 1 => by
    have ih := fo_cnt hn tb r
    rw [fd]
    generalize fd (h_fo n tb) (0, 0, 1) r = p at ih ⊢
    rw [h_fo]
    rcases ih with h | ⟨h, hc⟩
    · rw [if_pos h]; exact Or.inl h
    · rw [if_neg (by rw [h]; decide)]
      obtain ⟨g1, g2⟩ := fx_grow hn tb p.1 p.2.1 (Nat.le_refl n)
      rcases g2 with g2 | ⟨g2, k, hk, g3, g4⟩
      · rw [g2]; exact Or.inl rfl
      · refine Or.inr ⟨g2, ?_⟩
        have := cnt_up (p := fun j => bb p.1 j) (q := fun j => bb (fd (h_fx n tb) (p.1, p.2.1, 0) n).1 j) g1 hk g3 g4
        omega
theorem fo_end {n : Nat} (hn : n ≤ 8) (tb : Nat → Int32) : (fd (h_fo n tb) (0, 0, 1) 9).2.2 = 0 ∧ (fd (h_fo n tb) (0, 0, 1) 9).1 = (fd (h_fo n tb) (0, 0, 1) 8).1 ∧ (fd (h_fo n tb) (0, 0, 1) 9).2.1 = (fd (h_fo n tb) (0, 0, 1) 8).2.1 := by
  have ih := fo_cnt hn tb 8
  rw [show (9 : Nat) = 8 + 1 from rfl, fd]
  generalize fd (h_fo n tb) (0, 0, 1) 8 = p at ih ⊢
  rw [h_fo]
  rcases ih with h | ⟨h, hc⟩
  · rw [if_pos h]; exact ⟨h, rfl, rfl⟩
  · rw [if_neg (by rw [h]; decide)]
    obtain ⟨-, g2⟩ := fx_grow hn tb p.1 p.2.1 (Nat.le_refl n)
    rcases g2 with g2 | ⟨g2, k, hk, g3, g4⟩
    · rw [g2]; exact ⟨rfl, rfl, rfl⟩
    · have hl := fb_ct_le (fun j => bb p.1 j) n
      have := fb_ct_all.mp (show fb_ct (fun j => bb p.1 j) n = n by omega) k hk
      rw [g3] at this
      exact absurd this (by decide)
theorem b_fixed {k : Nat} {wc wm : ix_W} (R : Rel k wc wm) (x : Int32) : Both k m_X4_fixed m_X5_fixed [.inl x] wc wm := by
  obtain ⟨n, c, tb, tl, se, on, dd, ch, tn, ro, ot, ow, tr, tu, ld, lc, cc, br, bw, fs, fo, cm, ce, li, ke, be, rfl, rfl, I⟩ := R
  have hn := I.1.2.1
  by_cases h : inw x 0 1 = true
  · obtain ⟨f1, f2, f3⟩ := fo_end hn tb
    have hM := m_fixed (c := c) (tl := tl) (se := se) (on := on) (dd := dd) (ch := ch) (fs := fs) (fo := fo) (cm := cm) (ce := ce) (li := li) (ke := ke) (be := be) hn h f1
    have hC := c_fixed (c := c) (tb := tb) (tn := tn) (tl := tl) (se := se) (on := on) (dd := dd) (ch := ch) (ro := ro) (ot := ot) (ow := ow) (tr := tr) (tu := tu) (ld := ld) (lc := lc) (cc := cc) (br := br) (bw := bw) hn h
    rw [(fo_sub hn tb 8).1] at hC
    rw [f2, f3] at hM
    exact ⟨_, _, _, hC, hM, Rel.mk' I.up⟩
  · exact ⟨_, _, _, c_fixed_no (inw_no h), m_fixed_no (inw_no h), Rel.mk' I.up⟩
