/-! Laws -/
theorem e_lsize {n : Nat} {c : Int32} {tb tn : Nat → Int32} {tl : Nat} {se on : Nat → Int32} {dd : Int32} {ch ro ot ow tr tu ld : Nat → Int32} {lc : Nat} {cc br bw : Int32} : Cl m_X2_size [.inr 2] (cw n c tb tn tl se on dd ch ro ot ow tr tu ld lc cc br bw) (some (.inl (nI tl))) (cw n c tb tn tl se on dd ch ro ot ow tr tu ld lc cc br bw) := by
  refine Ev.to 999 rfl ?_
  exact Ev.iret rfl rfl rfl rfl
theorem e_forgetAll {n : Nat} {c : Int32} {tb tn : Nat → Int32} {tl : Nat} {se on : Nat → Int32} {dd : Int32} {ch ro ot ow tr tu ld : Nat → Int32} {lc : Nat} {cc br bw : Int32} : Cl m_X2_forgetAll [.inr 2] (cw n c tb tn tl se on dd ch ro ot ow tr tu ld lc cc br bw) none (cw n c tb tn (0) se on dd ch ro ot ow tr tu ld lc cc br bw) := by
  refine Ev.to 999 (w1 := (cw n c tb tn (0) se on dd ch ro ot ow tr tu ld lc cc br bw)) rfl ?_
  exact Ev.vret rfl rfl rfl
theorem e_addFull {n : Nat} {c : Int32} {tb tn : Nat → Int32} {tl : Nat} {se on : Nat → Int32} {dd : Int32} {ch ro ot ow tr tu ld : Nat → Int32} {lc : Nat} {cc br bw : Int32} (h : tl = 6) (s k : Int32) : Cl m_X2_add [.inr 2, .inl s, .inl k] (cw n c tb tn tl se on dd ch ro ot ow tr tu ld lc cc br bw) (some (.inl (-4))) (cw n c tb tn tl se on dd ch ro ot ow tr tu ld lc cc br bw) := by
  subst h
  refine Ev.to 999 (pc1 := 9) rfl ?_
  refine Ev.to 999 rfl ?_
  exact Ev.iret rfl rfl rfl rfl
theorem e_add {n : Nat} {c : Int32} {tb tn : Nat → Int32} {tl : Nat} {se on : Nat → Int32} {dd : Int32} {ch ro ot ow tr tu ld : Nat → Int32} {lc : Nat} {cc br bw : Int32} (h : tl < 6) (s k : Int32) : Cl m_X2_add [.inr 2, .inl s, .inl k] (cw n c tb tn tl se on dd ch ro ot ow tr tu ld lc cc br bw) (some (.inl (nI tl))) (cw n c tb tn (tl + 1) (upd se tl s) (upd on tl k) dd ch ro ot ow tr tu ld lc cc br bw) := by
  refine Ev.to 999 rfl ?_
  refine Ev.tt (nI_lt (b := 6) h (by omega)) ?_
  refine Ev.to 999 rfl ?_
  refine Ev.ast rfl rfl h (by decide) ?_
  refine Ev.to 999 rfl ?_
  refine Ev.ast rfl rfl h (by decide) ?_
  have e : (cw n c tb tn (tl + 1) (upd se tl s) (upd on tl k) dd ch ro ot ow tr tu ld lc cc br bw) = List.set (cw n c tb tn tl (upd se tl s) (upd on tl k) dd ch ro ot ow tr tu ld lc cc br bw) 2 (.inr (2, [.inr 9, .inr 10, .inl (nI tl + 1)])) := by rw [← nI_succ]; rfl
  rw [e]
  refine Ev.to 999 rfl ?_
  refine Ev.iret rfl rfl ?_ rfl
  show Sum.inl (nI tl + 1 - 1) = _
  rw [← nI_succ, nI_pred]
theorem e_dropNo {n : Nat} {c : Int32} {tb tn : Nat → Int32} {tl : Nat} {se on : Nat → Int32} {dd : Int32} {ch ro ot ow tr tu ld : Nat → Int32} {lc : Nat} {cc br bw : Int32} (h : tl = 0) : Cl m_X2_dropLast [.inr 2] (cw n c tb tn tl se on dd ch ro ot ow tr tu ld lc cc br bw) (some (.inl (-3))) (cw n c tb tn tl se on dd ch ro ot ow tr tu ld lc cc br bw) := by
  subst h
  refine Ev.to 999 (pc1 := 7) rfl ?_
  refine Ev.to 999 rfl ?_
  exact Ev.iret rfl rfl rfl rfl
theorem e_drop {n : Nat} {c : Int32} {tb tn : Nat → Int32} {tl : Nat} {se on : Nat → Int32} {dd : Int32} {ch ro ot ow tr tu ld : Nat → Int32} {lc : Nat} {cc br bw : Int32} (h : tl < 6) : Cl m_X2_dropLast [.inr 2] (cw n c tb tn (tl + 1) se on dd ch ro ot ow tr tu ld lc cc br bw) (some (.inl (nI tl))) (cw n c tb tn tl se on dd ch ro ot ow tr tu ld lc cc br bw) := by
  refine Ev.to 999 rfl ?_
  refine Ev.ff (nI_ne0 (by omega) (by omega)) ?_
  have e : (cw n c tb tn tl se on dd ch ro ot ow tr tu ld lc cc br bw) = List.set (cw n c tb tn (tl + 1) se on dd ch ro ot ow tr tu ld lc cc br bw) 2 (.inr (2, [.inr 9, .inr 10, .inl (nI (tl + 1) - 1)])) := by rw [nI_pred]; rfl
  rw [e]
  refine Ev.to 999 rfl ?_
  exact Ev.iret rfl rfl (congrArg Sum.inl (nI_pred tl)) rfl
def g_ms (se on : Nat → Int32) (s : Int32) (l : Nat) (a : Int32) : Int32 := a + (ibc (s &&& se l) - on l) * (ibc (s &&& se l) - on l)
def g_mis (tl : Nat) (se on : Nat → Int32) (s : Int32) : Int32 := fd (g_ms se on s) 0 tl
theorem e_missedBy {n : Nat} {c : Int32} {tb tn : Nat → Int32} {tl : Nat} {se on : Nat → Int32} {dd : Int32} {ch ro ot ow tr tu ld : Nat → Int32} {lc : Nat} {cc br bw : Int32} (ht : tl ≤ 6) (s : Int32) : Cl m_X2_missedBy [.inr 2, .inl s] (cw n c tb tn tl se on dd ch ro ot ow tr tu ld lc cc br bw) (some (.inl (g_mis tl se on s))) (cw n c tb tn tl se on dd ch ro ot ow tr tu ld lc cc br bw) := by
  refine Ev.to 4 (L1 := [_, _, _, _, _]) (st1 := []) rfl ?_
  refine Ev.loop (fun l => [some (.inr 2), some (.inl s), some (.inl (fd (g_ms se on s) 0 l)), some (.inl (nI l)), none]) (fun _ => (cw n c tb tn tl se on dd ch ro ot ow tr tu ld lc cc br bw)) (fun _ => True) 0 tl (Nat.zero_le tl) trivial (fun l _ hl _ kk => ?_) (fun _ => ?_)
  · have kk := kk trivial
    rw [nI_succ, fd, g_ms] at kk
    refine Ev.to 999 rfl ?_
    refine Ev.ff (nI_ng hl (by omega)) ?_
    refine Ev.to 999 rfl ?_
    refine Ev.ald rfl rfl (by omega) (by decide) ?_
    refine Ev.to 999 rfl ?_
    refine Ev.callS rfl rfl (j_bc _ _) ?_
    refine Ev.to 999 rfl ?_
    refine Ev.ald rfl rfl (by omega) (by decide) ?_
    exact Ev.to 4 (L1 := [_, _, _, _, _]) rfl (Ev.fg kk (le_cc (le_cc (le_cc (le_cc (le_nc le_nil))))))
  · refine Ev.to 999 rfl ?_
    refine Ev.tt (nI_gg (by omega)) ?_
    refine Ev.to 999 rfl ?_
    exact Ev.iret rfl rfl rfl rfl
