/-! Weights -/
theorem e_startAnew {n : Nat} {c : Int32} {tb tn : Nat → Int32} {tl : Nat} {se on : Nat → Int32} {dd : Int32} {ch ro ot ow tr tu ld : Nat → Int32} {lc : Nat} {cc br bw : Int32} (m : Nat) : Cl m_X3_startAnew [.inr 1, .inl (nI m)] (cw n c tb tn tl se on dd ch ro ot ow tr tu ld lc cc br bw) none (cw (m) (0) (fd (fun j f => upd f j 0) tb 64) tn tl se on dd ch ro ot ow tr tu ld lc cc br bw) := by
  refine Ev.to 12 (L1 := [_, _, _]) (st1 := []) (w1 := (cw (m) (0) tb tn tl se on dd ch ro ot ow tr tu ld lc cc br bw)) rfl ?_
  refine Ev.loop (fun j => [some (.inr 1), some (.inl (nI m)), some (.inl (nI j))]) (fun j => (cw (m) (0) (fd (fun j f => upd f j 0) tb j) tn tl se on dd ch ro ot ow tr tu ld lc cc br bw)) (fun _ => True) 0 64 (by omega) trivial (fun j _ hj _ kk => ?_) (fun _ => ?_)
  · have kk := kk trivial
    rw [nI_succ, fd] at kk
    refine Ev.to 999 rfl ?_
    refine Ev.ff (nI_ng (n := 64) hj (by omega)) ?_
    refine Ev.to 999 rfl ?_
    refine Ev.ast rfl rfl hj (by decide) ?_
    exact Ev.to 12 (L1 := [_, _, _]) rfl kk
  · refine Ev.to 999 (pc1 := 34) rfl ?_
    exact Ev.vret rfl rfl rfl
def g_wp (tb : Nat → Int32) (i j : Nat) (a : Int32) : Int32 := if tb (8 * i + j) = 0 then a else a + 1
def g_wpr (tb : Nat → Int32) (i : Nat) (a : Int32) : Int32 := fd (g_wp tb i) a i
theorem e_weightedPairs {n : Nat} {c : Int32} {tb tn : Nat → Int32} {tl : Nat} {se on : Nat → Int32} {dd : Int32} {ch ro ot ow tr tu ld : Nat → Int32} {lc : Nat} {cc br bw : Int32} (hn : n ≤ 8) : Cl m_X3_weightedPairs [.inr 1] (cw n c tb tn tl se on dd ch ro ot ow tr tu ld lc cc br bw) (some (.inl (fd (g_wpr tb) 0 n))) (cw n c tb tn tl se on dd ch ro ot ow tr tu ld lc cc br bw) := by
  refine Ev.to 4 (L1 := [_, _, _, _]) (st1 := []) rfl ?_
  refine Ev.loop (fun i => [some (.inr 1), some (.inl (fd (g_wpr tb) 0 i)), some (.inl (nI i)), none]) (fun _ => (cw n c tb tn tl se on dd ch ro ot ow tr tu ld lc cc br bw)) (fun _ => True) 0 n (Nat.zero_le n) trivial (fun i _ hi _ kk => ?_) (fun _ => ?_)
  · have kk := kk trivial
    rw [nI_succ, fd, g_wpr] at kk
    refine Ev.to 999 rfl ?_
    refine Ev.ff (nI_ng hi (by omega)) ?_
    generalize fd (g_wpr tb) 0 i = a0 at kk ⊢
    refine Ev.to 14 (L1 := [_, _, _, _]) (st1 := []) rfl ?_
    refine Ev.loop (fun j => [some (.inr 1), some (.inl (fd (g_wp tb i) a0 j)), some (.inl (nI i)), some (.inl (nI j))]) (fun _ => (cw n c tb tn tl se on dd ch ro ot ow tr tu ld lc cc br bw)) (fun _ => True) 0 i (Nat.zero_le i) trivial (fun j _ hj _ k2 => ?_) (fun _ => ?_)
    · have k2 := k2 trivial
      rw [nI_succ, fd] at k2
      refine Ev.to 999 rfl ?_
      refine Ev.ff (nI_ng hj (by omega)) ?_
      refine Ev.to 999 rfl ?_
      refine Ev.callV (rest := []) rfl rfl (e_between (by omega) (by omega)) ?_
      refine Ev.to 999 rfl ?_
      refine Ev.if_ (fun h => ?_) (fun h => ?_)
      · rw [g_wp, if_pos h] at k2
        exact Ev.to 14 (L1 := [_, _, _, _]) rfl k2
      · rw [g_wp, if_neg h] at k2
        exact Ev.to 14 (L1 := [_, _, _, _]) rfl k2
    · refine Ev.to 999 rfl ?_
      refine Ev.tt (nI_gg (by omega)) ?_
      exact Ev.to 4 (L1 := [_, _, _, _]) rfl (Ev.fg kk (le_cc (le_cc (le_cc (le_nc le_nil)))))
  · refine Ev.to 999 rfl ?_
    refine Ev.tt (nI_gg (by omega)) ?_
    refine Ev.to 999 rfl ?_
    exact Ev.iret rfl rfl rfl rfl
def g_es (n : Nat) (tb : Nat → Int32) (s : Int32) (i : Nat) (a : Int32) : Int32 := if bb s i = true then a + g_gain n tb i (s &&& (((1 : Int32) <<< (nI i &&& 31)) - 1)) else a
def g_en (n : Nat) (c : Int32) (tb : Nat → Int32) (s : Int32) : Int32 := fd (g_es n tb s) c n
theorem e_energyOf {n : Nat} {c : Int32} {tb tn : Nat → Int32} {tl : Nat} {se on : Nat → Int32} {dd : Int32} {ch ro ot ow tr tu ld : Nat → Int32} {lc : Nat} {cc br bw : Int32} (hn : n ≤ 8) (s : Int32) : Cl m_X3_energyOf [.inr 1, .inl s] (cw n c tb tn tl se on dd ch ro ot ow tr tu ld lc cc br bw) (some (.inl (g_en n c tb s))) (cw n c tb tn tl se on dd ch ro ot ow tr tu ld lc cc br bw) := by
  refine Ev.to 7 (L1 := [_, _, _, _]) (st1 := []) rfl ?_
  refine Ev.loop (fun i => [some (.inr 1), some (.inl s), some (.inl (fd (g_es n tb s) c i)), some (.inl (nI i))]) (fun _ => (cw n c tb tn tl se on dd ch ro ot ow tr tu ld lc cc br bw)) (fun _ => True) 0 n (Nat.zero_le n) trivial (fun i _ hi _ kk => ?_) (fun _ => ?_)
  · have kk := kk trivial
    rw [nI_succ, fd, g_es] at kk
    refine Ev.to 999 rfl ?_
    refine Ev.ff (nI_ng hi (by omega)) ?_
    refine Ev.to 999 rfl ?_
    refine Ev.callS (rest := []) rfl rfl (e_isIn _ _ _) ?_
    refine Ev.to 999 rfl ?_
    refine Ev.on (fun h => ?_) (fun h => ?_)
    · rw [if_neg (by rw [h]; decide)] at kk
      exact Ev.to 7 (L1 := [_, _, _, _]) rfl kk
    · rw [if_pos h] at kk
      refine Ev.to 999 rfl ?_
      refine Ev.callV rfl rfl (e_gainOf hn (by omega) _) ?_
      exact Ev.to 7 (L1 := [_, _, _, _]) rfl kk
  · refine Ev.to 999 rfl ?_
    refine Ev.tt (nI_gg (by omega)) ?_
    refine Ev.to 999 rfl ?_
    exact Ev.iret rfl rfl rfl rfl
def g_cb (n : Nat) (tb : Nat → Int32) (i : Nat) (s : Int32) : Int32 := if bb s i = true then -(g_gain n tb i s) else g_gain n tb i s
theorem e_changeBy {n : Nat} {c : Int32} {tb tn : Nat → Int32} {tl : Nat} {se on : Nat → Int32} {dd : Int32} {ch ro ot ow tr tu ld : Nat → Int32} {lc : Nat} {cc br bw : Int32} (hn : n ≤ 8) {i : Nat} (hi : i < 8) (s : Int32) : Cl m_X3_changeBy [.inr 1, .inl (nI i), .inl s] (cw n c tb tn tl se on dd ch ro ot ow tr tu ld lc cc br bw) (some (.inl (g_cb n tb i s))) (cw n c tb tn tl se on dd ch ro ot ow tr tu ld lc cc br bw) := by
  refine Ev.to 999 rfl ?_
  refine Ev.callV (rest := []) rfl rfl (e_gainOf hn hi _) ?_
  refine Ev.to 999 (L1 := [_, _, _, _]) rfl ?_
  refine Ev.callS (rest := []) rfl rfl (e_isIn _ _ _) ?_
  refine Ev.to 999 rfl ?_
  refine Ev.on (fun h => ?_) (fun h => ?_)
  · refine Ev.to 999 rfl ?_
    exact Ev.iret rfl rfl (by rw [g_cb, if_neg (by rw [h]; decide)]) rfl
  · refine Ev.to 999 rfl ?_
    exact Ev.iret rfl rfl (by rw [g_cb, if_pos h]) rfl
def g_lb (tb : Nat → Int32) (i j : Nat) (a : Int32) : Int32 := a + imin (tb (8 * i + j)) 0
def g_lbr (tb : Nat → Int32) (i : Nat) (a : Int32) : Int32 := fd (g_lb tb i) a (i + 1)
theorem nI_ngt {i j : Nat} (h : j ≤ i) (hn : i ≤ 1000000) : ¬ nI i < nI j := nI_nlt h (by omega)
theorem nI_gt1 {i : Nat} (hn : i ≤ 1000000) : nI i < nI (i + 1) := nI_lt (by omega) (by omega)
theorem e_lowerBound {n : Nat} {c : Int32} {tb tn : Nat → Int32} {tl : Nat} {se on : Nat → Int32} {dd : Int32} {ch ro ot ow tr tu ld : Nat → Int32} {lc : Nat} {cc br bw : Int32} (hn : n ≤ 8) : Cl m_X3_lowerBound [.inr 1] (cw n c tb tn tl se on dd ch ro ot ow tr tu ld lc cc br bw) (some (.inl (fd (g_lbr tb) c n))) (cw n c tb tn tl se on dd ch ro ot ow tr tu ld lc cc br bw) := by
  refine Ev.to 7 (L1 := [_, _, _, _]) (st1 := []) rfl ?_
  refine Ev.loop (fun i => [some (.inr 1), some (.inl (fd (g_lbr tb) c i)), some (.inl (nI i)), none]) (fun _ => (cw n c tb tn tl se on dd ch ro ot ow tr tu ld lc cc br bw)) (fun _ => True) 0 n (Nat.zero_le n) trivial (fun i _ hi _ kk => ?_) (fun _ => ?_)
  · have kk := kk trivial
    rw [nI_succ, fd, g_lbr] at kk
    refine Ev.to 999 rfl ?_
    refine Ev.ff (nI_ng hi (by omega)) ?_
    generalize fd (g_lbr tb) c i = a0 at kk ⊢
    refine Ev.to 17 (L1 := [_, _, _, _]) (st1 := []) rfl ?_
    refine Ev.loop (fun j => [some (.inr 1), some (.inl (fd (g_lb tb i) a0 j)), some (.inl (nI i)), some (.inl (nI j))]) (fun _ => (cw n c tb tn tl se on dd ch ro ot ow tr tu ld lc cc br bw)) (fun _ => True) 0 (i + 1) (Nat.zero_le _) trivial (fun j _ hj _ k2 => ?_) (fun _ => ?_)
    · have k2 := k2 trivial
      rw [nI_succ, fd] at k2
      refine Ev.to 999 rfl ?_
      refine Ev.ff (nI_ngt (by omega) (by omega)) ?_
      refine Ev.to 999 rfl ?_
      refine Ev.callV rfl rfl (e_between (by omega) (by omega)) ?_
      refine Ev.to 999 rfl ?_
      refine Ev.callS rfl rfl (j_min _ _ _) ?_
      exact Ev.to 17 (L1 := [_, _, _, _]) rfl k2
    · refine Ev.to 999 rfl ?_
      refine Ev.tt (nI_gt1 (by omega)) ?_
      exact Ev.to 7 (L1 := [_, _, _, _]) rfl (Ev.fg kk (le_cc (le_cc (le_cc (le_nc le_nil)))))
  · refine Ev.to 999 rfl ?_
    refine Ev.tt (nI_gg (by omega)) ?_
    refine Ev.to 999 rfl ?_
    exact Ev.iret rfl rfl rfl rfl
theorem nI_andp (t : Nat) : nI (t + 1) &&& (nI (t + 1) - 1) = nI ((t + 1) &&& t) := by rw [nI_pred, fa_and]
def g_fs (n : Nat) (tb : Nat → Int32) (t : Nat) (f : Nat → Int32) : Nat → Int32 := upd f (t + 1) (f ((t + 1) &&& t) + g_gain n tb (lowb (t + 1)) (nI ((t + 1) &&& t)))
def g_fill (n : Nat) (c : Int32) (tb : Nat → Int32) (f : Nat → Int32) : Nat → Int32 := fd (g_fs n tb) (upd f 0 c) (2 ^ n - 1)
theorem pw_le {n : Nat} (hn : n ≤ 8) : 2 ^ n ≤ 256 ∧ 1 ≤ 2 ^ n := ⟨Nat.le_trans (Nat.pow_le_pow_right (by omega) hn) (by decide), Nat.two_pow_pos n⟩
theorem e_fillro {n : Nat} {c : Int32} {tb tn : Nat → Int32} {tl : Nat} {se on : Nat → Int32} {dd : Int32} {ch ro ot ow tr tu ld : Nat → Int32} {lc : Nat} {cc br bw : Int32} (hn : n ≤ 8) : Cl m_X3_fillEnergies [.inr 1, .inr 5] (cw n c tb tn tl se on dd ch ro ot ow tr tu ld lc cc br bw) none (cw n c tb tn tl se on dd ch (g_fill n c tb ro) ot ow tr tu ld lc cc br bw) := by
  obtain ⟨hp1, hp2⟩ := pw_le hn
  refine Ev.to 999 rfl ?_
  refine Ev.ast (a := 0) rfl rfl (by decide) (by decide) ?_
  refine Ev.to 9 (L1 := [_, _, _, _]) (st1 := []) (w1 := (cw n c tb tn tl se on dd ch (upd ro 0 c) ot ow tr tu ld lc cc br bw)) rfl ?_
  refine Ev.loop (fun t => [some (.inr 1), some (.inr 5), some (.inl (nI (t + 1))), none]) (fun t => (cw n c tb tn tl se on dd ch (fd (g_fs n tb) (upd ro 0 c) t) ot ow tr tu ld lc cc br bw)) (fun _ => True) 0 (2 ^ n - 1) (Nat.zero_le _) trivial (fun t _ ht _ kk => ?_) (fun _ => ?_)
  · have kk := kk trivial
    rw [nI_succ (t + 1), fd, g_fs] at kk
    generalize fd (g_fs n tb) (upd ro 0 c) t = F at kk ⊢
    refine Ev.to 999 rfl ?_
    refine Ev.callV rfl rfl (e_states hn) ?_
    refine Ev.to 999 rfl ?_
    refine Ev.ff (nI_ng (by omega) (by omega)) ?_
    refine Ev.to 999 (L1 := [_, _, _, _]) rfl ?_
    refine Ev.aldE ((t + 1) &&& t) (nI_andp t) rfl rfl (Nat.lt_of_le_of_lt Nat.and_le_right (by omega)) (by decide) ?_
    refine Ev.to 999 rfl ?_
    refine Ev.callS rfl rfl (j_tz _ _) ?_
    refine Ev.to 999 rfl ?_
    have e1 : itz (nI (t + 1)) = nI (lowb (t + 1)) := itz_low (by omega) (by omega)
    have e2 : lowb (t + 1) < 8 := lowb_lt (by omega) (by omega : t + 1 < 2 ^ 8) (by omega)
    refine Ev.callV rfl rfl (Cl.eq (e_gainOf hn e2 (nI ((t + 1) &&& t))) (by rw [← e1, ← nI_andp]) rfl) ?_
    refine Ev.to 999 rfl ?_
    refine Ev.ast rfl rfl (by omega) (by decide) ?_
    exact Ev.to 9 (L1 := [_, _, _, _]) rfl (Ev.fg kk (le_cc (le_cc (le_cc (le_nc le_nil)))))
  · refine Ev.to 999 rfl ?_
    refine Ev.callV rfl rfl (e_states hn) ?_
    refine Ev.to 999 rfl ?_
    rw [show 2 ^ n - 1 + 1 = 2 ^ n by omega]
    refine Ev.tt (nI_gg (by omega)) ?_
    exact Ev.vret rfl rfl rfl
theorem e_fillot {n : Nat} {c : Int32} {tb tn : Nat → Int32} {tl : Nat} {se on : Nat → Int32} {dd : Int32} {ch ro ot ow tr tu ld : Nat → Int32} {lc : Nat} {cc br bw : Int32} (hn : n ≤ 8) : Cl m_X3_fillEnergies [.inr 1, .inr 6] (cw n c tb tn tl se on dd ch ro ot ow tr tu ld lc cc br bw) none (cw n c tb tn tl se on dd ch ro (g_fill n c tb ot) ow tr tu ld lc cc br bw) := by
  obtain ⟨hp1, hp2⟩ := pw_le hn
  refine Ev.to 999 rfl ?_
  refine Ev.ast (a := 0) rfl rfl (by decide) (by decide) ?_
  refine Ev.to 9 (L1 := [_, _, _, _]) (st1 := []) (w1 := (cw n c tb tn tl se on dd ch ro (upd ot 0 c) ow tr tu ld lc cc br bw)) rfl ?_
  refine Ev.loop (fun t => [some (.inr 1), some (.inr 6), some (.inl (nI (t + 1))), none]) (fun t => (cw n c tb tn tl se on dd ch ro (fd (g_fs n tb) (upd ot 0 c) t) ow tr tu ld lc cc br bw)) (fun _ => True) 0 (2 ^ n - 1) (Nat.zero_le _) trivial (fun t _ ht _ kk => ?_) (fun _ => ?_)
  · have kk := kk trivial
    rw [nI_succ (t + 1), fd, g_fs] at kk
    generalize fd (g_fs n tb) (upd ot 0 c) t = F at kk ⊢
    refine Ev.to 999 rfl ?_
    refine Ev.callV rfl rfl (e_states hn) ?_
    refine Ev.to 999 rfl ?_
    refine Ev.ff (nI_ng (by omega) (by omega)) ?_
    refine Ev.to 999 (L1 := [_, _, _, _]) rfl ?_
    refine Ev.aldE ((t + 1) &&& t) (nI_andp t) rfl rfl (Nat.lt_of_le_of_lt Nat.and_le_right (by omega)) (by decide) ?_
    refine Ev.to 999 rfl ?_
    refine Ev.callS rfl rfl (j_tz _ _) ?_
    refine Ev.to 999 rfl ?_
    have e1 : itz (nI (t + 1)) = nI (lowb (t + 1)) := itz_low (by omega) (by omega)
    have e2 : lowb (t + 1) < 8 := lowb_lt (by omega) (by omega : t + 1 < 2 ^ 8) (by omega)
    refine Ev.callV rfl rfl (Cl.eq (e_gainOf hn e2 (nI ((t + 1) &&& t))) (by rw [← e1, ← nI_andp]) rfl) ?_
    refine Ev.to 999 rfl ?_
    refine Ev.ast rfl rfl (by omega) (by decide) ?_
    exact Ev.to 9 (L1 := [_, _, _, _]) rfl (Ev.fg kk (le_cc (le_cc (le_cc (le_nc le_nil)))))
  · refine Ev.to 999 rfl ?_
    refine Ev.callV rfl rfl (e_states hn) ?_
    refine Ev.to 999 rfl ?_
    rw [show 2 ^ n - 1 + 1 = 2 ^ n by omega]
    refine Ev.tt (nI_gg (by omega)) ?_
    exact Ev.vret rfl rfl rfl
def g_vb (tb : Nat → Int32) (i : Nat) (s : Int32) (j : Nat) (a : Int32) : Int32 := if j = i ∨ bb s j = true then a else a + imin (tb (8 * i + j)) 0
def g_va (tb : Nat → Int32) (i : Nat) (s : Int32) (j : Nat) (a : Int32) : Int32 := if j = i ∨ bb s j = true then a else a + imax (tb (8 * i + j)) 0
def g_vf (n : Nat) (tb : Nat → Int32) (i : Nat) (s o : Int32) : Int32 := if g_gain n tb i o + fd (g_vb tb i s) 0 n < 0 then (if 0 < g_gain n tb i o + fd (g_va tb i s) 0 n then -1 else 1) else 0
theorem e_valueToFix {n : Nat} {c : Int32} {tb tn : Nat → Int32} {tl : Nat} {se on : Nat → Int32} {dd : Int32} {ch ro ot ow tr tu ld : Nat → Int32} {lc : Nat} {cc br bw : Int32} (hn : n ≤ 8) {i : Nat} (hi : i < 8) (s o : Int32) : Cl m_X3_valueToFix [.inr 1, .inl (nI i), .inl s, .inl o] (cw n c tb tn tl se on dd ch ro ot ow tr tu ld lc cc br bw) (some (.inl (g_vf n tb i s o))) (cw n c tb tn tl se on dd ch ro ot ow tr tu ld lc cc br bw) := by
  refine Ev.to 999 rfl ?_
  refine Ev.callV (rest := []) rfl rfl (e_gainOf hn hi _) ?_
  rw [g_vf]
  generalize g_gain n tb i o = g
  refine Ev.to 17 (L1 := [_, _, _, _, _, _, _, _]) (st1 := []) rfl ?_
  refine Ev.loop (fun j => [some (.inr 1), some (.inl (nI i)), some (.inl s), some (.inl o), some (.inl g), some (.inl (fd (g_vb tb i s) 0 j)), some (.inl (fd (g_va tb i s) 0 j)), some (.inl (nI j))]) (fun _ => (cw n c tb tn tl se on dd ch ro ot ow tr tu ld lc cc br bw)) (fun _ => True) 0 n (Nat.zero_le n) trivial (fun j _ hj _ kk => ?_) (fun _ => ?_)
  · have kk := kk trivial
    rw [nI_succ, fd, fd] at kk
    generalize fd (g_vb tb i s) 0 j = a1 at kk ⊢
    generalize fd (g_va tb i s) 0 j = a2 at kk ⊢
    refine Ev.to 999 rfl ?_
    refine Ev.ff (nI_ng hj (by omega)) ?_
    refine Ev.to 999 rfl ?_
    refine Ev.if_ (fun h => ?_) (fun h => ?_)
    · rw [nI_eq (by omega) (by omega)] at h
      rw [g_vb, if_pos (Or.inl h), g_va, if_pos (Or.inl h)] at kk
      exact Ev.to 17 (L1 := [_, _, _, _, _, _, _, _]) rfl kk
    · rw [nI_eq (by omega) (by omega)] at h
      refine Ev.to 999 rfl ?_
      refine Ev.callS (rest := []) rfl rfl (e_isIn _ _ _) ?_
      refine Ev.to 999 rfl ?_
      refine Ev.on (fun hb => ?_) (fun hb => ?_)
      · have hno : ¬ (j = i ∨ bb s j = true) := fun q => q.elim h (fun z => by rw [hb] at z; cases z)
        rw [g_vb, if_neg hno, g_va, if_neg hno] at kk
        refine Ev.to 999 rfl ?_
        refine Ev.callV rfl rfl (e_between hi (by omega)) ?_
        refine Ev.to 999 rfl ?_
        refine Ev.callS rfl rfl (j_min _ _ _) ?_
        refine Ev.to 999 (L1 := [_, _, _, _, _, _, _, _]) rfl ?_
        refine Ev.callV rfl rfl (e_between hi (by omega)) ?_
        refine Ev.to 999 rfl ?_
        refine Ev.callS rfl rfl (j_max _ _ _) ?_
        exact Ev.to 17 (L1 := [_, _, _, _, _, _, _, _]) rfl kk
      · rw [g_vb, if_pos (Or.inr hb), g_va, if_pos (Or.inr hb)] at kk
        exact Ev.to 17 (L1 := [_, _, _, _, _, _, _, _]) rfl kk
  · generalize fd (g_vb tb i s) 0 n = a1
    generalize fd (g_va tb i s) 0 n = a2
    refine Ev.to 999 rfl ?_
    refine Ev.tt (nI_gg (by omega)) ?_
    refine Ev.to 999 rfl ?_
    refine Ev.if_ (fun h => ?_) (fun h => ?_)
    · refine Ev.to 999 rfl ?_
      refine Ev.if_ (fun h2 => ?_) (fun h2 => ?_)
      · refine Ev.to 999 rfl ?_
        exact Ev.iret rfl rfl (by rw [if_pos h, if_pos h2]) rfl
      · refine Ev.to 999 rfl ?_
        exact Ev.iret rfl rfl (by rw [if_pos h, if_neg h2]) rfl
    · refine Ev.to 999 rfl ?_
      exact Ev.iret rfl rfl (by rw [if_neg h]) rfl
def g_tv (n : Nat) (tb : Nat → Int32) (s : Int32) (i j : Nat) : Int32 := if i = j then g_cb n tb i s else if bb s i = bb s j then tb (8 * i + j) else -(tb (8 * i + j))
theorem bz_inj {a b : Bool} : bz a = bz b ↔ a = b := by cases a <;> cases b <;> simp [bz]
theorem e_turnedBetween {n : Nat} {c : Int32} {tb tn : Nat → Int32} {tl : Nat} {se on : Nat → Int32} {dd : Int32} {ch ro ot ow tr tu ld : Nat → Int32} {lc : Nat} {cc br bw : Int32} (hn : n ≤ 8) {i j : Nat} (hi : i < 8) (hj : j < 8) (s : Int32) : Cl m_X3_turnedBetween [.inr 1, .inl (nI i), .inl (nI j), .inl s] (cw n c tb tn tl se on dd ch ro ot ow tr tu ld lc cc br bw) (some (.inl (g_tv n tb s i j))) (cw n c tb tn tl se on dd ch ro ot ow tr tu ld lc cc br bw) := by
  refine Ev.to 999 rfl ?_
  refine Ev.if_ (fun h => ?_) (fun h => ?_)
  · rw [nI_eq (by omega) (by omega)] at h
    refine Ev.to 999 rfl ?_
    refine Ev.callV (rest := []) rfl rfl (e_gainOf hn hi _) ?_
    refine Ev.to 999 (L1 := [_, _, _, _, _]) rfl ?_
    refine Ev.callS (rest := []) rfl rfl (e_isIn _ _ _) ?_
    refine Ev.to 999 rfl ?_
    refine Ev.on (fun hb => ?_) (fun hb => ?_)
    · refine Ev.to 999 rfl ?_
      exact Ev.iret rfl rfl (by rw [g_tv, if_pos h, g_cb, if_neg (by rw [hb]; decide)]) rfl
    · refine Ev.to 999 rfl ?_
      exact Ev.iret rfl rfl (by rw [g_tv, if_pos h, g_cb, if_pos hb]) rfl
  · rw [nI_eq (by omega) (by omega)] at h
    refine Ev.to 999 rfl ?_
    refine Ev.callS (rest := []) rfl rfl (e_isIn _ _ _) ?_
    refine Ev.to 999 rfl ?_
    refine Ev.callS (rest := [_]) rfl rfl (e_isIn _ _ _) ?_
    refine Ev.to 999 rfl ?_
    refine Ev.if_ (fun hb => ?_) (fun hb => ?_)
    · rw [bz_inj] at hb
      refine Ev.to 999 rfl ?_
      refine Ev.callV rfl rfl (e_between hi hj) ?_
      refine Ev.to 999 rfl ?_
      exact Ev.iret rfl rfl (by rw [g_tv, if_neg h, if_pos hb]) rfl
    · rw [bz_inj] at hb
      refine Ev.to 999 rfl ?_
      refine Ev.callV rfl rfl (e_between hi hj) ?_
      refine Ev.to 999 rfl ?_
      exact Ev.iret rfl rfl (by rw [g_tv, if_neg h, if_neg hb]) rfl
def g_nm1 (f s : Int32) : Int32 := f - f / s * s
def g_nm2 (f s : Int32) : Int32 := if g_nm1 f s * 2 ≤ s then f - g_nm1 f s else f - g_nm1 f s + s
def g_nm (x s : Int32) : Int32 := if 0 ≤ x then g_nm2 (iabs x) s else -(g_nm2 (iabs x) s)
theorem e_nm2 (x s f r g : Int32) (w : ix_W) : Ev m_X3_nearestMultiple 29 [some (.inl x), some (.inl s), some (.inl f), some (.inl r), some (.inl g)] [] w (some (.inl (if 0 ≤ x then g else -g)), w) := by
  refine Ev.to 999 rfl ?_
  refine Ev.if_ (fun h => ?_) (fun h => ?_)
  · refine Ev.to 999 rfl ?_
    exact Ev.iret rfl rfl (by rw [if_pos h]) rfl
  · refine Ev.to 999 rfl ?_
    exact Ev.iret rfl rfl (by rw [if_neg h]) rfl
theorem e_nearestMultiple (x : Int32) {s : Int32} (hs : s ≠ 0) (w : ix_W) : Cl m_X3_nearestMultiple [.inl x, .inl s] w (some (.inl (g_nm x s))) w := by
  refine Ev.to 999 rfl ?_
  refine Ev.callS rfl rfl (j_abs _ _) ?_
  rw [g_nm]
  generalize iabs x = f
  refine Ev.to 999 (L1 := [_, _, _, _, _]) rfl ?_
  refine Ev.rm rfl hs ?_
  refine Ev.to 999 (L1 := [_, _, _, _, _]) rfl ?_
  refine Ev.if_ (fun h => ?_) (fun h => ?_)
  · rw [show g_nm2 f s = f - (f - f / s * s) from by rw [g_nm2, if_pos (show g_nm1 f s * 2 ≤ s from h)]; rfl]
    exact Ev.to 29 (L1 := [_, _, _, _, _]) rfl (e_nm2 _ _ _ _ _ _)
  · rw [show g_nm2 f s = f - (f - f / s * s) + s from by rw [g_nm2, if_neg (show ¬ g_nm1 f s * 2 ≤ s from h)]; rfl]
    exact Ev.to 29 (L1 := [_, _, _, _, _]) rfl (e_nm2 _ _ _ _ _ _)
def g_ct (s : Int32) (j : Nat) (f : Nat → Int32) : Nat → Int32 := upd f j (g_nm (f j) s)
theorem e_cutTo {n : Nat} {c : Int32} {tb tn : Nat → Int32} {tl : Nat} {se on : Nat → Int32} {dd : Int32} {ch ro ot ow tr tu ld : Nat → Int32} {lc : Nat} {cc br bw : Int32} {s : Int32} (hs : s ≠ 0) : Cl m_X3_cutTo [.inr 1, .inl s] (cw n c tb tn tl se on dd ch ro ot ow tr tu ld lc cc br bw) none (cw n c (fd (g_ct s) tb 64) tn tl se on dd ch ro ot ow tr tu ld lc cc br bw) := by
  refine Ev.to 2 (L1 := [_, _, _]) (st1 := []) rfl ?_
  refine Ev.loop (fun j => [some (.inr 1), some (.inl s), some (.inl (nI j))]) (fun j => (cw n c (fd (g_ct s) tb j) tn tl se on dd ch ro ot ow tr tu ld lc cc br bw)) (fun _ => True) 0 64 (by omega) trivial (fun j _ hj _ kk => ?_) (fun _ => ?_)
  · have kk := kk trivial
    rw [nI_succ, fd, g_ct] at kk
    generalize fd (g_ct s) tb j = F at kk ⊢
    refine Ev.to 999 rfl ?_
    refine Ev.ff (nI_ng (n := 64) hj (by omega)) ?_
    refine Ev.to 999 rfl ?_
    refine Ev.ald rfl rfl hj (by decide) ?_
    refine Ev.to 999 rfl ?_
    refine Ev.callS rfl rfl (e_nearestMultiple _ hs _) ?_
    refine Ev.ast rfl rfl hj (by decide) ?_
    exact Ev.to 2 (L1 := [_, _, _]) rfl kk
  · refine Ev.to 999 (pc1 := 33) rfl ?_
    exact Ev.vret rfl rfl rfl
/-! turnBy -/
def g_ti (n : Nat) (tb : Nat → Int32) (s : Int32) (i j : Nat) (f : Nat → Int32) : Nat → Int32 := upd f (8 * i + j) (g_tv n tb s i j)
def g_tr (n : Nat) (tb : Nat → Int32) (s : Int32) (i : Nat) (f : Nat → Int32) : Nat → Int32 := fd (g_ti n tb s i) f n
def g_tk (n : Nat) (tb : Nat → Int32) (s : Int32) (i j : Nat) : Bool := inw (g_tv n tb s i j) (-60) 60
def g_ci (g : Nat → Int32) (i j : Nat) (f : Nat → Int32) : Nat → Int32 := upd f (8 * i + j) (g (8 * i + j))
def g_cr (n : Nat) (g : Nat → Int32) (i : Nat) (f : Nat → Int32) : Nat → Int32 := fd (g_ci g i) f n
/-- one row of the first going through, to place N -/
theorem e_turnRow {n : Nat} {c : Int32} {tb tn : Nat → Int32} {tl : Nat} {se on : Nat → Int32} {dd : Int32} {ch ro ot ow tr tu ld : Nat → Int32} {lc : Nat} {cc br bw : Int32} (hn : n ≤ 8) (s : Int32) {i N : Nat} (hi : i < n) (hN : N ≤ n) (f : Nat → Int32) (hk : ∀ j, j < N → g_tk n tb s i j = true) {x : Option ix_V × ix_W} (z : Option ix_V) (kk : ∀ z, Ev m_X3_turnBy 12 [some (.inr 1), some (.inl s), some (.inl (nI i)), some (.inl (nI N)), z] [] (cw n c tb (fd (g_ti n tb s i) f N) tl se on dd ch ro ot ow tr tu ld lc cc br bw) x) : Ev m_X3_turnBy 12 [some (.inr 1), some (.inl s), some (.inl (nI i)), some (.inl 0), z] [] (cw n c tb (f) tl se on dd ch ro ot ow tr tu ld lc cc br bw) x := by
  refine Ev.fg (L := [some (.inr 1), some (.inl s), some (.inl (nI i)), some (.inl 0), none]) ?_ (le_cc (le_cc (le_cc (le_cc (le_nc le_nil)))))
  refine Ev.loop (fun j => [some (.inr 1), some (.inl s), some (.inl (nI i)), some (.inl (nI j)), none]) (fun j => (cw n c tb (fd (g_ti n tb s i) f j) tl se on dd ch ro ot ow tr tu ld lc cc br bw)) (fun _ => True) 0 N (Nat.zero_le N) trivial (fun j _ hj _ k2 => ?_) (fun _ => ?_)
  · have k2 := k2 trivial
    rw [nI_succ, fd, g_ti] at k2
    generalize fd (g_ti n tb s i) f j = F at k2 ⊢
    refine Ev.to 999 rfl ?_
    refine Ev.ff (nI_ng (by omega) (by omega)) ?_
    refine Ev.to 999 rfl ?_
    refine Ev.callV (rest := []) rfl rfl (e_turnedBetween hn (by omega) (by omega) _) ?_
    have hok := hk j hj
    rw [g_tk] at hok
    generalize g_tv n tb s i j = v at k2 hok ⊢
    refine Ev.to 999 (L1 := [_, _, _, _, _]) rfl ?_
    refine Ev.callS (rest := []) rfl rfl (e_isWithin _ _ _ _) ?_
    refine Ev.to 999 rfl ?_
    refine Ev.ff (by rw [bz_t hok]; decide) ?_
    refine Ev.to 999 rfl ?_
    refine Ev.callS rfl rfl (e_place _ _ _) ?_
    refine Ev.to 999 rfl ?_
    refine Ev.astE (8 * i + j) (ni8 i j) rfl rfl (by omega) (by decide) ?_
    exact Ev.to 12 (L1 := [_, _, _, _, _]) rfl (Ev.fg k2 (le_cc (le_cc (le_cc (le_cc (le_nc le_nil))))))
  · exact kk none
theorem e_turnRows {n : Nat} {c : Int32} {tb tn : Nat → Int32} {tl : Nat} {se on : Nat → Int32} {dd : Int32} {ch ro ot ow tr tu ld : Nat → Int32} {lc : Nat} {cc br bw : Int32} (hn : n ≤ 8) (s : Int32) {N : Nat} (hN : N ≤ n) (hk : ∀ i, i < N → ∀ j, j < n → g_tk n tb s i j = true) {x : Option ix_V × ix_W} (kk : Ev m_X3_turnBy 2 [some (.inr 1), some (.inl s), some (.inl (nI N)), none, none] [] (cw n c tb (fd (g_tr n tb s) tn N) tl se on dd ch ro ot ow tr tu ld lc cc br bw) x) : Ev m_X3_turnBy 2 [some (.inr 1), some (.inl s), some (.inl 0), none, none] [] (cw n c tb tn tl se on dd ch ro ot ow tr tu ld lc cc br bw) x := by
  refine Ev.loop (fun i => [some (.inr 1), some (.inl s), some (.inl (nI i)), none, none]) (fun i => (cw n c tb (fd (g_tr n tb s) tn i) tl se on dd ch ro ot ow tr tu ld lc cc br bw)) (fun _ => True) 0 N (Nat.zero_le N) trivial (fun i _ hi _ k2 => ?_) (fun _ => kk)
  have k2 := k2 trivial
  rw [nI_succ, fd, g_tr] at k2
  refine Ev.to 999 rfl ?_
  refine Ev.ff (nI_ng (by omega) (by omega)) ?_
  refine Ev.to 12 (L1 := [_, _, _, _, _]) (st1 := []) rfl ?_
  refine e_turnRow (tn := tn) hn s (by omega) (Nat.le_refl n) _ (hk i hi) none (fun z => ?_)
  refine Ev.to 999 rfl ?_
  refine Ev.tt (nI_gg (by omega)) ?_
  exact Ev.to 2 (L1 := [_, _, _, _, _]) rfl (Ev.fg k2 (le_cc (le_cc (le_cc (le_nc (le_nc le_nil))))))
theorem e_turnNo {n : Nat} {c : Int32} {tb tn : Nat → Int32} {tl : Nat} {se on : Nat → Int32} {dd : Int32} {ch ro ot ow tr tu ld : Nat → Int32} {lc : Nat} {cc br bw : Int32} (hn : n ≤ 8) (s : Int32) {i j : Nat} (hi : i < n) (hj : j < n) (h1 : ∀ i2, i2 < i → ∀ j, j < n → g_tk n tb s i2 j = true) (h2 : ∀ j2, j2 < j → g_tk n tb s i j2 = true) (h3 : g_tk n tb s i j = false) : ∃ tn2, Cl m_X3_turnBy [.inr 1, .inl s] (cw n c tb tn tl se on dd ch ro ot ow tr tu ld lc cc br bw) (some (.inl (bz false))) (cw n c tb (tn2) tl se on dd ch ro ot ow tr tu ld lc cc br bw) := by
  refine ⟨fd (g_ti n tb s i) (fd (g_tr n tb s) tn i) j, ?_⟩
  refine Ev.to 2 (L1 := [_, _, _, _, _]) (st1 := []) rfl ?_
  refine e_turnRows hn s (N := i) (by omega) h1 ?_
  refine Ev.to 999 rfl ?_
  refine Ev.ff (nI_ng hi (by omega)) ?_
  refine Ev.to 12 (L1 := [_, _, _, _, _]) (st1 := []) rfl ?_
  refine e_turnRow (tn := tn) hn s hi (N := j) (by omega) _ h2 none (fun z => ?_)
  refine Ev.to 999 rfl ?_
  refine Ev.ff (nI_ng hj (by omega)) ?_
  refine Ev.to 999 rfl ?_
  refine Ev.callV (rest := []) rfl rfl (e_turnedBetween hn (by omega) (by omega) _) ?_
  rw [g_tk] at h3
  generalize g_tv n tb s i j = v at h3 ⊢
  refine Ev.to 999 (L1 := [_, _, _, _, _]) rfl ?_
  refine Ev.callS (rest := []) rfl rfl (e_isWithin _ _ _ _) ?_
  refine Ev.to 999 rfl ?_
  refine Ev.tt (bz_f h3) ?_
  refine Ev.to 999 rfl ?_
  exact Ev.zret rfl rfl rfl rfl (Or.inl rfl)
theorem e_turnYes {n : Nat} {c : Int32} {tb tn : Nat → Int32} {tl : Nat} {se on : Nat → Int32} {dd : Int32} {ch ro ot ow tr tu ld : Nat → Int32} {lc : Nat} {cc br bw : Int32} (hn : n ≤ 8) (s : Int32) (hk : ∀ i, i < n → ∀ j, j < n → g_tk n tb s i j = true) : Cl m_X3_turnBy [.inr 1, .inl s] (cw n c tb tn tl se on dd ch ro ot ow tr tu ld lc cc br bw) (some (.inl (bz true))) (cw n (g_en n c tb s) (fd (g_cr n (fd (g_tr n tb s) tn n)) tb n) (fd (g_tr n tb s) tn n) tl se on dd ch ro ot ow tr tu ld lc cc br bw) := by
  refine Ev.to 2 (L1 := [_, _, _, _, _]) (st1 := []) rfl ?_
  refine e_turnRows hn s (N := n) (Nat.le_refl n) hk ?_
  generalize fd (g_tr n tb s) tn n = T
  refine Ev.to 999 rfl ?_
  refine Ev.tt (nI_gg (by omega)) ?_
  refine Ev.to 999 rfl ?_
  refine Ev.callV rfl rfl (e_energyOf hn _) ?_
  generalize g_en n c tb s = C
  refine Ev.to 78 (L1 := [_, _, _, _, _]) (st1 := []) (w1 := (cw n (C) tb (T) tl se on dd ch ro ot ow tr tu ld lc cc br bw)) rfl ?_
  refine Ev.loop (fun i => [some (.inr 1), some (.inl s), some (.inl (nI i)), none, none]) (fun i => (cw n (C) (fd (g_cr n T) tb i) (T) tl se on dd ch ro ot ow tr tu ld lc cc br bw)) (fun _ => True) 0 n (Nat.zero_le n) trivial (fun i _ hi _ kk => ?_) (fun _ => ?_)
  · have kk := kk trivial
    rw [nI_succ, fd, g_cr] at kk
    generalize fd (g_cr n T) tb i = F at kk ⊢
    refine Ev.to 999 rfl ?_
    refine Ev.ff (nI_ng hi (by omega)) ?_
    refine Ev.to 88 (L1 := [_, _, _, _, _]) (st1 := []) rfl ?_
    refine Ev.loop (fun j => [some (.inr 1), some (.inl s), some (.inl (nI i)), some (.inl (nI j)), none]) (fun j => (cw n (C) (fd (g_ci T i) F j) (T) tl se on dd ch ro ot ow tr tu ld lc cc br bw)) (fun _ => True) 0 n (Nat.zero_le n) trivial (fun j _ hj _ k2 => ?_) (fun _ => ?_)
    · have k2 := k2 trivial
      rw [nI_succ, fd, g_ci] at k2
      generalize fd (g_ci T i) F j = F2 at k2 ⊢
      refine Ev.to 999 rfl ?_
      refine Ev.ff (nI_ng hj (by omega)) ?_
      refine Ev.to 999 rfl ?_
      refine Ev.callS rfl rfl (e_place _ _ _) ?_
      refine Ev.to 999 rfl ?_
      refine Ev.callS rfl rfl (e_place _ _ _) ?_
      refine Ev.aldE (8 * i + j) (ni8 i j) rfl rfl (by omega) (by decide) ?_
      refine Ev.astE (8 * i + j) (ni8 i j) rfl rfl (by omega) (by decide) ?_
      exact Ev.to 88 (L1 := [_, _, _, _, _]) rfl k2
    · refine Ev.to 999 rfl ?_
      refine Ev.tt (nI_gg (by omega)) ?_
      exact Ev.to 78 (L1 := [_, _, _, _, _]) rfl (Ev.fg kk (le_cc (le_cc (le_cc (le_nc (le_cc le_nil))))))
  · refine Ev.to 999 rfl ?_
    refine Ev.tt (nI_gg (by omega)) ?_
    refine Ev.to 999 rfl ?_
    exact Ev.zret rfl rfl rfl rfl (Or.inr rfl)
