/-! Weights -/
theorem e_startAnew {n : Nat} {c : Int32} {tb tn : Nat → Int32} {tl : Nat} {se on : Nat → Int32} {dd : Int32} {ch ro ot ow tr tu ld : Nat → Int32} {lc : Nat} {cc br bw : Int32} (m : Nat) : Cl m_X3_startAnew [.inr 1, .inl (nI m)] (cw n c tb tn tl se on dd ch ro ot ow tr tu ld lc cc br bw) none (cw (m) (0) (fd (fun j f => upd f j 0) tb 64) tn tl se on dd ch ro ot ow tr tu ld lc cc br bw) := by
  refine Ev.to 12 (L1 := [_, _, _]) (st1 := []) (w1 := (cw (m) (0) tb tn tl se on dd ch ro ot ow tr tu ld lc cc br bw)) rfl ?_
  refine Ev.loop (fun j => [some (.inr 1), some (.inl (nI m)), some (.inl (nI j))]) (fun j => (cw (m) (0) (fd (fun j f => upd f j 0) tb j) tn tl se on dd ch ro ot ow tr tu ld lc cc br bw)) (fun _ => True) 0 64 (by omega) trivial (fun j _ hj _ kk => ?_) (fun _ => ?_)
  · have kk := kk trivial
    rw [nI_succ, fd] at kk
    refine Ev.to 999 rfl ?_
    refine Ev.ff (nI_ng (n := 64) hj (by omega)) ?_
    refine Ev.to 999 rfl ?_
    refine Ev.ast rfl rfl hj (by decide) ?_
    exact Ev.to 12 (L1 := [_, _, _]) rfl kk
  · refine Ev.to 999 rfl ?_
    refine Ev.tt (nI_gg (n := 64) (by omega)) ?_
    exact Ev.vret rfl rfl rfl
def g_wp (tb : Nat → Int32) (i j : Nat) (a : Int32) : Int32 := if tb (8 * i + j) = 0 then a else a + 1
def g_wpr (tb : Nat → Int32) (i : Nat) (a : Int32) : Int32 := fd (g_wp tb i) a i
theorem e_weightedPairs {n : Nat} {c : Int32} {tb tn : Nat → Int32} {tl : Nat} {se on : Nat → Int32} {dd : Int32} {ch ro ot ow tr tu ld : Nat → Int32} {lc : Nat} {cc br bw : Int32} (hn : n ≤ 8) : Cl m_X3_weightedPairs [.inr 1] (cw n c tb tn tl se on dd ch ro ot ow tr tu ld lc cc br bw) (some (.inl (fd (g_wpr tb) 0 n))) (cw n c tb tn tl se on dd ch ro ot ow tr tu ld lc cc br bw) := by
  refine Ev.to 4 (L1 := [_, _, _, _]) (st1 := []) rfl ?_
  refine Ev.loop (fun i => [some (.inr 1), some (.inl (fd (g_wpr tb) 0 i)), some (.inl (nI i)), none]) (fun _ => (cw n c tb tn tl se on dd ch ro ot ow tr tu ld lc cc br bw)) (fun _ => True) 0 n (Nat.zero_le n) trivial (fun i _ hi _ kk => ?_) (fun _ => ?_)
  · have kk := kk trivial
    rw [nI_succ, fd, g_wpr] at kk
    refine Ev.to 999 rfl ?_
    refine Ev.ff (nI_ng hi (by omega)) ?_
    generalize fd (g_wpr tb) 0 i = a0 at kk ⊢
    refine Ev.to 14 (L1 := [_, _, _, _]) (st1 := []) rfl ?_
    refine Ev.loop (fun j => [some (.inr 1), some (.inl (fd (g_wp tb i) a0 j)), some (.inl (nI i)), some (.inl (nI j))]) (fun _ => (cw n c tb tn tl se on dd ch ro ot ow tr tu ld lc cc br bw)) (fun _ => True) 0 i (Nat.zero_le i) trivial (fun j _ hj _ k2 => ?_) (fun _ => ?_)
    · have k2 := k2 trivial
      rw [nI_succ, fd] at k2
      refine Ev.to 999 rfl ?_
      refine Ev.ff (nI_ng hj (by omega)) ?_
      refine Ev.to 999 rfl ?_
      refine Ev.callV (rest := []) rfl rfl (e_between (by omega) (by omega)) ?_
      refine Ev.to 999 rfl ?_
      refine Ev.if_ (fun h => ?_) (fun h => ?_)
      · rw [g_wp, if_pos h] at k2
        exact Ev.to 14 (L1 := [_, _, _, _]) rfl k2
      · rw [g_wp, if_neg h] at k2
        exact Ev.to 14 (L1 := [_, _, _, _]) rfl k2
    · refine Ev.to 999 rfl ?_
      refine Ev.tt (nI_gg (by omega)) ?_
      exact Ev.to 4 (L1 := [_, _, _, _]) rfl (Ev.fg kk (le_cc (le_cc (le_cc (le_nc le_nil)))))
  · refine Ev.to 999 rfl ?_
    refine Ev.tt (nI_gg (by omega)) ?_
    refine Ev.to 999 rfl ?_
    exact Ev.iret rfl rfl rfl rfl
def g_es (n : Nat) (tb : Nat → Int32) (s : Int32) (i : Nat) (a : Int32) : Int32 := if bb s i = true then a + g_gain n tb i (s &&& (((1 : Int32) <<< (nI i &&& 31)) - 1)) else a
def g_en (n : Nat) (c : Int32) (tb : Nat → Int32) (s : Int32) : Int32 := fd (g_es n tb s) c n
theorem e_energyOf {n : Nat} {c : Int32} {tb tn : Nat → Int32} {tl : Nat} {se on : Nat → Int32} {dd : Int32} {ch ro ot ow tr tu ld : Nat → Int32} {lc : Nat} {cc br bw : Int32} (hn : n ≤ 8) (s : Int32) : Cl m_X3_energyOf [.inr 1, .inl s] (cw n c tb tn tl se on dd ch ro ot ow tr tu ld lc cc br bw) (some (.inl (g_en n c tb s))) (cw n c tb tn tl se on dd ch ro ot ow tr tu ld lc cc br bw) := by
  refine Ev.to 7 (L1 := [_, _, _, _]) (st1 := []) rfl ?_
  refine Ev.loop (fun i => [some (.inr 1), some (.inl s), some (.inl (fd (g_es n tb s) c i)), some (.inl (nI i))]) (fun _ => (cw n c tb tn tl se on dd ch ro ot ow tr tu ld lc cc br bw)) (fun _ => True) 0 n (Nat.zero_le n) trivial (fun i _ hi _ kk => ?_) (fun _ => ?_)
  · have kk := kk trivial
    rw [nI_succ, fd, g_es] at kk
    refine Ev.to 999 rfl ?_
    refine Ev.ff (nI_ng hi (by omega)) ?_
    refine Ev.to 999 rfl ?_
    refine Ev.callS (rest := []) rfl rfl (e_isIn _ _ _) ?_
    refine Ev.to 999 rfl ?_
    refine Ev.on (fun h => ?_) (fun h => ?_)
    · rw [if_neg (by rw [h]; decide)] at kk
      exact Ev.to 7 (L1 := [_, _, _, _]) rfl kk
    · rw [if_pos h] at kk
      refine Ev.to 999 rfl ?_
      refine Ev.callV rfl rfl (e_gainOf hn (by omega) _) ?_
      exact Ev.to 7 (L1 := [_, _, _, _]) rfl kk
  · refine Ev.to 999 rfl ?_
    refine Ev.tt (nI_gg (by omega)) ?_
    refine Ev.to 999 rfl ?_
    exact Ev.iret rfl rfl rfl rfl
def g_cb (n : Nat) (tb : Nat → Int32) (i : Nat) (s : Int32) : Int32 := if bb s i = true then -(g_gain n tb i s) else g_gain n tb i s
theorem e_changeBy {n : Nat} {c : Int32} {tb tn : Nat → Int32} {tl : Nat} {se on : Nat → Int32} {dd : Int32} {ch ro ot ow tr tu ld : Nat → Int32} {lc : Nat} {cc br bw : Int32} (hn : n ≤ 8) {i : Nat} (hi : i < 8) (s : Int32) : Cl m_X3_changeBy [.inr 1, .inl (nI i), .inl s] (cw n c tb tn tl se on dd ch ro ot ow tr tu ld lc cc br bw) (some (.inl (g_cb n tb i s))) (cw n c tb tn tl se on dd ch ro ot ow tr tu ld lc cc br bw) := by
  refine Ev.to 999 rfl ?_
  refine Ev.callV (rest := []) rfl rfl (e_gainOf hn hi _) ?_
  refine Ev.to 999 (L1 := [_, _, _, _]) rfl ?_
  refine Ev.callS (rest := []) rfl rfl (e_isIn _ _ _) ?_
  refine Ev.to 999 rfl ?_
  refine Ev.on (fun h => ?_) (fun h => ?_)
  · refine Ev.to 999 rfl ?_
    exact Ev.iret rfl rfl (by rw [g_cb, if_neg (by rw [h]; decide)]) rfl
  · refine Ev.to 999 rfl ?_
    exact Ev.iret rfl rfl (by rw [g_cb, if_pos h]) rfl
def g_lb (tb : Nat → Int32) (i j : Nat) (a : Int32) : Int32 := a + imin (tb (8 * i + j)) 0
def g_lbr (tb : Nat → Int32) (i : Nat) (a : Int32) : Int32 := fd (g_lb tb i) a (i + 1)
theorem nI_ngt {i j : Nat} (h : j ≤ i) (hn : i ≤ 1000000) : ¬ nI i < nI j := nI_nlt h (by omega)
theorem nI_gt1 {i : Nat} (hn : i ≤ 1000000) : nI i < nI (i + 1) := nI_lt (by omega) (by omega)
theorem e_lowerBound {n : Nat} {c : Int32} {tb tn : Nat → Int32} {tl : Nat} {se on : Nat → Int32} {dd : Int32} {ch ro ot ow tr tu ld : Nat → Int32} {lc : Nat} {cc br bw : Int32} (hn : n ≤ 8) : Cl m_X3_lowerBound [.inr 1] (cw n c tb tn tl se on dd ch ro ot ow tr tu ld lc cc br bw) (some (.inl (fd (g_lbr tb) c n))) (cw n c tb tn tl se on dd ch ro ot ow tr tu ld lc cc br bw) := by
  refine Ev.to 7 (L1 := [_, _, _, _]) (st1 := []) rfl ?_
  refine Ev.loop (fun i => [some (.inr 1), some (.inl (fd (g_lbr tb) c i)), some (.inl (nI i)), none]) (fun _ => (cw n c tb tn tl se on dd ch ro ot ow tr tu ld lc cc br bw)) (fun _ => True) 0 n (Nat.zero_le n) trivial (fun i _ hi _ kk => ?_) (fun _ => ?_)
  · have kk := kk trivial
    rw [nI_succ, fd, g_lbr] at kk
    refine Ev.to 999 rfl ?_
    refine Ev.ff (nI_ng hi (by omega)) ?_
    generalize fd (g_lbr tb) c i = a0 at kk ⊢
    refine Ev.to 17 (L1 := [_, _, _, _]) (st1 := []) rfl ?_
    refine Ev.loop (fun j => [some (.inr 1), some (.inl (fd (g_lb tb i) a0 j)), some (.inl (nI i)), some (.inl (nI j))]) (fun _ => (cw n c tb tn tl se on dd ch ro ot ow tr tu ld lc cc br bw)) (fun _ => True) 0 (i + 1) (Nat.zero_le _) trivial (fun j _ hj _ k2 => ?_) (fun _ => ?_)
    · have k2 := k2 trivial
      rw [nI_succ, fd] at k2
      refine Ev.to 999 rfl ?_
      refine Ev.ff (nI_ngt (by omega) (by omega)) ?_
      refine Ev.to 999 rfl ?_
      refine Ev.callV rfl rfl (e_between (by omega) (by omega)) ?_
      refine Ev.to 999 rfl ?_
      refine Ev.callS rfl rfl (j_min _ _ _) ?_
      exact Ev.to 17 (L1 := [_, _, _, _]) rfl k2
    · refine Ev.to 999 rfl ?_
      refine Ev.tt (nI_gt1 (by omega)) ?_
      exact Ev.to 7 (L1 := [_, _, _, _]) rfl (Ev.fg kk (le_cc (le_cc (le_cc (le_nc le_nil)))))
  · refine Ev.to 999 rfl ?_
    refine Ev.tt (nI_gg (by omega)) ?_
    refine Ev.to 999 rfl ?_
    exact Ev.iret rfl rfl rfl rfl
