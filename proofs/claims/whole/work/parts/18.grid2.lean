/-! ColdGrid, the second half -/
def g_fv (n : Nat) (tb : Nat → Int32) (i : Nat) (s o : Int32) : Int32 := if bb s i = true then -1 else g_vf n tb i s o
def g_fx (n : Nat) (tb : Nat → Int32) (i : Nat) (p : Int32 × Int32 × Int32) : Int32 × Int32 × Int32 := if g_fv n tb i p.1 p.2.1 = -1 then p else (p.1 ||| ((1 : Int32) <<< (nI i &&& 31)), p.2.1 ||| (g_fv n tb i p.1 p.2.1 <<< (nI i &&& 31)), 1)
def g_fo (n : Nat) (tb : Nat → Int32) (_ : Nat) (p : Int32 × Int32 × Int32) : Int32 × Int32 × Int32 := if p.2.2 = 0 then p else fd (g_fx n tb) (p.1, p.2.1, 0) n
theorem fd_still {α : Type} {g : Nat → α → α} {s : α} {r m : Nat} (h : ∀ i, r ≤ i → g i (fd g s r) = fd g s r) (hm : r ≤ m) : fd g s m = fd g s r := by
  induction m with
  | zero => rw [show r = 0 by omega]
  | succ m ih =>
    rcases Nat.lt_or_ge m r with q | q
    · rw [show m + 1 = r by omega]
    · rw [fd, ih q, h m q]
theorem c_fixed_no {n : Nat} {c : Int32} {tb tn : Nat → Int32} {tl : Nat} {se on : Nat → Int32} {dd : Int32} {ch ro ot ow tr tu ld : Nat → Int32} {lc : Nat} {cc br bw : Int32} {x : Int32} (h : inw x 0 1 = false) : Cl m_X4_fixed [.inr 0, .inl x] (cw n c tb tn tl se on dd ch ro ot ow tr tu ld lc cc br bw) (some (.inl (-2))) (cw n c tb tn tl se on dd ch ro ot ow tr tu ld lc cc br bw) := by
  refine Ev.to 999 rfl ?_
  refine Ev.callS (rest := []) rfl rfl (e_isWithin _ _ _ _) ?_
  refine Ev.to 999 rfl ?_
  refine Ev.tt (bz_f h) ?_
  refine Ev.to 999 rfl ?_
  exact Ev.iret rfl rfl rfl rfl
theorem c_fixed_end {n : Nat} {c : Int32} {tb tn : Nat → Int32} {tl : Nat} {se on : Nat → Int32} {dd : Int32} {ch ro ot ow tr tu ld : Nat → Int32} {lc : Nat} {cc br bw : Int32} (x s o : Int32) (z4 z5 z6 z7 : Option ix_V) : Ev m_X4_fixed 114 [some (.inr 0), some (.inl x), some (.inl s), some (.inl o), z4, z5, z6, z7] [] (cw n c tb tn tl se on dd ch ro ot ow tr tu ld lc cc br bw) (some (.inl (if x = 0 then s else o)), (cw n c tb tn tl se on dd ch ro ot ow tr tu ld lc cc br bw)) := by
  refine Ev.to 999 rfl ?_
  refine Ev.if_ (fun h => ?_) (fun h => ?_)
  · refine Ev.to 999 rfl ?_
    exact Ev.iret rfl rfl (by rw [if_pos h]) rfl
  · refine Ev.to 999 rfl ?_
    exact Ev.iret rfl rfl (by rw [if_neg h]) rfl
theorem c_fixed {n : Nat} {c : Int32} {tb tn : Nat → Int32} {tl : Nat} {se on : Nat → Int32} {dd : Int32} {ch ro ot ow tr tu ld : Nat → Int32} {lc : Nat} {cc br bw : Int32} (hn : n ≤ 8) {x : Int32} (h : inw x 0 1 = true) : Cl m_X4_fixed [.inr 0, .inl x] (cw n c tb tn tl se on dd ch ro ot ow tr tu ld lc cc br bw) (some (.inl (if x = 0 then (fd (g_fo n tb) (0, 0, 1) 8).1 else (fd (g_fo n tb) (0, 0, 1) 8).2.1))) (cw n c tb tn tl se on dd ch ro ot ow tr tu ld lc cc br bw) := by
  refine Ev.to 999 rfl ?_
  refine Ev.callS (rest := []) rfl rfl (e_isWithin _ _ _ _) ?_
  refine Ev.to 999 rfl ?_
  refine Ev.ff (by rw [bz_t h]; decide) ?_
  refine Ev.to 22 (L1 := [_, _, _, _, _, _, _, _]) (st1 := []) rfl ?_
  refine Ev.loop (fun r => [some (.inr 0), some (.inl x), some (.inl (fd (g_fo n tb) (0, 0, 1) r).1), some (.inl (fd (g_fo n tb) (0, 0, 1) r).2.1), some (.inl (fd (g_fo n tb) (0, 0, 1) r).2.2), some (.inl (nI r)), none, none]) (fun _ => (cw n c tb tn tl se on dd ch ro ot ow tr tu ld lc cc br bw)) (fun _ => True) 0 8 (by omega) trivial (fun r _ hr _ kk => ?_) (fun _ => ?_)
  · have kk := kk trivial
    have hstill : (fd (g_fo n tb) (0, 0, 1) r).2.2 = 0 → fd (g_fo n tb) (0, 0, 1) 8 = fd (g_fo n tb) (0, 0, 1) r := fun hz => fd_still (fun i _ => by rw [g_fo, if_pos hz]) (by omega)
    rw [nI_succ, fd, g_fo] at kk
    generalize fd (g_fo n tb) (0, 0, 1) r = p at kk hstill ⊢
    obtain ⟨s, o, a⟩ := p
    dsimp only at kk hstill ⊢
    refine Ev.to 999 rfl ?_
    refine Ev.if_ (fun h1 => ?_) (fun h1 => ?_)
    · rw [hstill h1]
      exact c_fixed_end x s o _ _ _ _
    · rw [if_neg h1] at kk
      refine Ev.to 999 rfl ?_
      refine Ev.ff (nI_ng (n := 8) hr (by omega)) ?_
      refine Ev.to 40 (L1 := [_, _, _, _, _, _, _, _]) (st1 := []) rfl ?_
      refine Ev.loop (fun i => [some (.inr 0), some (.inl x), some (.inl (fd (g_fx n tb) (s, o, 0) i).1), some (.inl (fd (g_fx n tb) (s, o, 0) i).2.1), some (.inl (fd (g_fx n tb) (s, o, 0) i).2.2), some (.inl (nI r)), some (.inl (nI i)), none]) (fun _ => (cw n c tb tn tl se on dd ch ro ot ow tr tu ld lc cc br bw)) (fun _ => True) 0 n (Nat.zero_le n) trivial (fun i _ hi _ k2 => ?_) (fun _ => ?_)
      · have k2 := k2 trivial
        rw [nI_succ, fd, g_fx] at k2
        generalize fd (g_fx n tb) (s, o, 0) i = p at k2 ⊢
        obtain ⟨s2, o2, a2⟩ := p
        dsimp only at k2 ⊢
        have J : ∀ v, g_fv n tb i s2 o2 = v → Ev m_X4_fixed 76 [some (.inr 0), some (.inl x), some (.inl s2), some (.inl o2), some (.inl a2), some (.inl (nI r)), some (.inl (nI i)), none] [.inl v] (cw n c tb tn tl se on dd ch ro ot ow tr tu ld lc cc br bw) (some (.inl (if x = 0 then (fd (g_fo n tb) (0, 0, 1) 8).1 else (fd (g_fo n tb) (0, 0, 1) 8).2.1)), (cw n c tb tn tl se on dd ch ro ot ow tr tu ld lc cc br bw)) := by
          intro v hv
          rw [hv] at k2
          refine Ev.to 999 (L1 := [_, _, _, _, _, _, _, _]) rfl ?_
          refine Ev.if_ (fun h2 => ?_) (fun h2 => ?_)
          · rw [if_pos h2] at k2
            exact Ev.to 40 (L1 := [_, _, _, _, _, _, _, _]) rfl (Ev.fg k2 (le_cc (le_cc (le_cc (le_cc (le_cc (le_cc (le_cc (le_nc le_nil)))))))))
          · rw [if_neg h2] at k2
            exact Ev.to 40 (L1 := [_, _, _, _, _, _, _, _]) rfl (Ev.fg k2 (le_cc (le_cc (le_cc (le_cc (le_cc (le_cc (le_cc (le_nc le_nil)))))))))
        refine Ev.to 999 rfl ?_
        refine Ev.callV rfl rfl e_size ?_
        refine Ev.to 999 rfl ?_
        refine Ev.ff (nI_ng hi (by omega)) ?_
        refine Ev.to 999 rfl ?_
        refine Ev.callS (rest := []) rfl rfl (e_isIn _ _ _) ?_
        refine Ev.to 999 rfl ?_
        refine Ev.on (fun hb => ?_) (fun hb => ?_)
        · refine Ev.to 999 rfl ?_
          refine Ev.callV (rest := []) rfl rfl (e_valueToFix hn (by omega) _ _) ?_
          exact J _ (by rw [g_fv, if_neg (by rw [hb]; decide)])
        · exact Ev.to 76 rfl (J _ (by rw [g_fv, if_pos hb]))
      · refine Ev.to 999 rfl ?_
        refine Ev.callV rfl rfl e_size ?_
        refine Ev.to 999 rfl ?_
        refine Ev.tt (nI_gg (by omega)) ?_
        exact Ev.to 22 (L1 := [_, _, _, _, _, _, _, _]) rfl (Ev.fg kk (le_cc (le_cc (le_cc (le_cc (le_cc (le_cc (le_nc (le_nc le_nil)))))))))
  · generalize fd (g_fo n tb) (0, 0, 1) 8 = p
    obtain ⟨s, o, a⟩ := p
    dsimp only
    refine Ev.to 999 rfl ?_
    refine Ev.if_ (fun h1 => ?_) (fun h1 => ?_)
    · exact c_fixed_end x s o _ _ _ _
    · refine Ev.to 999 (pc1 := 114) rfl ?_
      exact c_fixed_end x s o _ _ _ _
theorem c_floor {n : Nat} {c : Int32} {tb tn : Nat → Int32} {tl : Nat} {se on : Nat → Int32} {dd : Int32} {ch ro ot ow tr tu ld : Nat → Int32} {lc : Nat} {cc br bw : Int32} (hn : n ≤ 8) : Cl m_X4_floor [.inr 0] (cw n c tb tn tl se on dd ch ro ot ow tr tu ld lc cc br bw) (some (.inl (fd (g_lbr tb) c n))) (cw n c tb tn tl se on dd ch ro ot ow tr tu ld lc cc br bw) := by
  refine Ev.to 999 rfl ?_
  refine Ev.callV (rest := []) rfl rfl (e_lowerBound hn) ?_
  exact Ev.iret rfl rfl rfl rfl
theorem c_kill_no {n : Nat} {c : Int32} {tb tn : Nat → Int32} {tl : Nat} {se on : Nat → Int32} {dd : Int32} {ch ro ot ow tr tu ld : Nat → Int32} {lc : Nat} {cc br bw : Int32} {x : Int32} (b : Int32) (h : inw x 0 19 = false) : Cl m_X4_kill [.inr 0, .inl x, .inl b] (cw n c tb tn tl se on dd ch ro ot ow tr tu ld lc cc br bw) (some (.inl (-2))) (cw n c tb tn tl se on dd ch ro ot ow tr tu ld lc cc br bw) := by
  refine Ev.to 999 rfl ?_
  refine Ev.callS (rest := []) rfl rfl (e_isWithin _ _ _ _) ?_
  refine Ev.to 999 rfl ?_
  refine Ev.tt (bz_f h) ?_
  refine Ev.to 999 rfl ?_
  exact Ev.iret rfl rfl rfl rfl
theorem c_kill {n : Nat} {c : Int32} {tb tn : Nat → Int32} {tl : Nat} {se on : Nat → Int32} {dd : Int32} {ch ro ot ow tr tu ld : Nat → Int32} {lc : Nat} {cc br bw : Int32} {q : Nat} (b : Int32) (h : inw (nI q) 0 19 = true) : Cl m_X4_kill [.inr 0, .inl (nI q), .inl b] (cw n c tb tn tl se on dd ch ro ot ow tr tu ld lc cc br bw) (some (.inl (bz (bb dd q)))) (cw n c tb tn tl se on (g_sd dd (nI q) b) ch ro ot ow tr tu ld lc cc br bw) := by
  refine Ev.to 999 rfl ?_
  refine Ev.callS (rest := []) rfl rfl (e_isWithin _ _ _ _) ?_
  refine Ev.to 999 rfl ?_
  refine Ev.ff (by rw [bz_t h]; decide) ?_
  refine Ev.to 999 rfl ?_
  refine Ev.callV (rest := []) rfl rfl (e_isDead q) ?_
  refine Ev.to 999 (L1 := [_, _, _, _]) rfl ?_
  refine Ev.callV (rest := []) rfl rfl (e_setDead _ _) ?_
  refine Ev.to 999 rfl ?_
  refine Ev.on (fun hb => ?_) (fun hb => ?_)
  · refine Ev.to 999 rfl ?_
    exact Ev.iret rfl rfl (by rw [bz_f hb]) rfl
  · refine Ev.to 999 rfl ?_
    exact Ev.iret rfl rfl (by rw [bz_t hb]) rfl
theorem c_chain_no {n : Nat} {c : Int32} {tb tn : Nat → Int32} {tl : Nat} {se on : Nat → Int32} {dd : Int32} {ch ro ot ow tr tu ld : Nat → Int32} {lc : Nat} {cc br bw : Int32} {i x : Int32} (h : inw i 0 (nI n - 1) = false ∨ inw x 0 1048575 = false) : Cl m_X4_chain [.inr 0, .inl i, .inl x] (cw n c tb tn tl se on dd ch ro ot ow tr tu ld lc cc br bw) (some (.inl (-2))) (cw n c tb tn tl se on dd ch ro ot ow tr tu ld lc cc br bw) := by
  have no : Ev m_X4_chain 18 [some (.inr 0), some (.inl i), some (.inl x)] [] (cw n c tb tn tl se on dd ch ro ot ow tr tu ld lc cc br bw) (some (.inl (-2)), (cw n c tb tn tl se on dd ch ro ot ow tr tu ld lc cc br bw)) := by
    refine Ev.to 999 rfl ?_
    exact Ev.iret rfl rfl rfl rfl
  refine Ev.to 999 rfl ?_
  refine Ev.callV (rest := []) rfl rfl (c_isLetter _) ?_
  refine Ev.to 999 rfl ?_
  refine Ev.on (fun _ => no) (fun h1 => ?_)
  refine Ev.to 999 rfl ?_
  refine Ev.callS (rest := []) rfl rfl (e_isWithin _ _ _ _) ?_
  refine Ev.to 999 rfl ?_
  refine Ev.on (fun _ => no) (fun h2 => ?_)
  rw [h1, h2] at h
  exact absurd h (by decide)
theorem c_chain {n : Nat} {c : Int32} {tb tn : Nat → Int32} {tl : Nat} {se on : Nat → Int32} {dd : Int32} {ch ro ot ow tr tu ld : Nat → Int32} {lc : Nat} {cc br bw : Int32} {a : Nat} {x : Int32} (ha : a < 8) (h1 : inw (nI a) 0 (nI n - 1) = true) (h2 : inw x 0 1048575 = true) : Cl m_X4_chain [.inr 0, .inl (nI a), .inl x] (cw n c tb tn tl se on dd ch ro ot ow tr tu ld lc cc br bw) (some (.inl (ibc x))) (cw n c tb tn tl se on dd (upd ch a x) ro ot ow tr tu ld lc cc br bw) := by
  refine Ev.to 999 rfl ?_
  refine Ev.callV (rest := []) rfl rfl (c_isLetter _) ?_
  refine Ev.to 999 rfl ?_
  refine Ev.ff (by rw [bz_t h1]; decide) ?_
  refine Ev.to 999 rfl ?_
  refine Ev.callS (rest := []) rfl rfl (e_isWithin _ _ _ _) ?_
  refine Ev.to 999 rfl ?_
  refine Ev.ff (by rw [bz_t h2]; decide) ?_
  refine Ev.to 999 rfl ?_
  refine Ev.callV (rest := []) rfl rfl (e_setChain ha _) ?_
  refine Ev.to 999 rfl ?_
  refine Ev.callS rfl rfl (j_bc _ _) ?_
  exact Ev.iret rfl rfl rfl rfl
theorem c_stands {n : Nat} {c : Int32} {tb tn : Nat → Int32} {tl : Nat} {se on : Nat → Int32} {dd : Int32} {ch ro ot ow tr tu ld : Nat → Int32} {lc : Nat} {cc br bw : Int32} (hn : n ≤ 8) : Cl m_X4_stands [.inr 0] (cw n c tb tn tl se on dd ch ro ot ow tr tu ld lc cc br bw) (some (.inl (g_ff n tb ch dd))) (cw n c tb tn tl se on dd ch ro ot ow tr tu ld lc cc br bw) := by
  refine Ev.to 999 rfl ?_
  refine Ev.callV (rest := []) rfl rfl (e_firstFailing hn) ?_
  exact Ev.iret rfl rfl rfl rfl
theorem c_link_bad {n : Nat} {c : Int32} {tb tn : Nat → Int32} {tl : Nat} {se on : Nat → Int32} {dd : Int32} {ch ro ot ow tr tu ld : Nat → Int32} {lc : Nat} {cc br bw : Int32} {i j x : Int32} (h : inw i 0 (nI n - 1) = false ∨ inw j 0 (nI n - 1) = false ∨ i = j ∨ inw x 0 1 = false) : Cl m_X4_link [.inr 0, .inl i, .inl j, .inl x] (cw n c tb tn tl se on dd ch ro ot ow tr tu ld lc cc br bw) (some (.inl (-2))) (cw n c tb tn tl se on dd ch ro ot ow tr tu ld lc cc br bw) := by
  have no : Ev m_X4_link 30 [some (.inr 0), some (.inl i), some (.inl j), some (.inl x), none, none, none] [] (cw n c tb tn tl se on dd ch ro ot ow tr tu ld lc cc br bw) (some (.inl (-2)), (cw n c tb tn tl se on dd ch ro ot ow tr tu ld lc cc br bw)) := by
    refine Ev.to 999 rfl ?_
    exact Ev.iret rfl rfl rfl rfl
  refine Ev.to 999 rfl ?_
  refine Ev.callV (rest := []) rfl rfl (c_isLetter _) ?_
  refine Ev.to 999 rfl ?_
  refine Ev.on (fun _ => no) (fun h1 => ?_)
  refine Ev.to 999 rfl ?_
  refine Ev.callV (rest := []) rfl rfl (c_isLetter _) ?_
  refine Ev.to 999 rfl ?_
  refine Ev.on (fun _ => no) (fun h2 => ?_)
  refine Ev.to 999 rfl ?_
  refine Ev.if_ (fun _ => no) (fun h3 => ?_)
  refine Ev.to 999 rfl ?_
  refine Ev.callS (rest := []) rfl rfl (e_isWithin _ _ _ _) ?_
  refine Ev.to 999 rfl ?_
  refine Ev.on (fun _ => no) (fun h4 => ?_)
  rw [h1, h2, h4] at h
  rcases h with h | h | h | h
  · cases h
  · cases h
  · exact absurd h h3
  · cases h
theorem c_link_go {n : Nat} {c : Int32} {tb tn : Nat → Int32} {tl : Nat} {se on : Nat → Int32} {dd : Int32} {ch ro ot ow tr tu ld : Nat → Int32} {lc : Nat} {cc br bw : Int32} {a b : Nat} {x : Int32} (h1 : inw (nI a) 0 (nI n - 1) = true) (h2 : inw (nI b) 0 (nI n - 1) = true) (h3 : ¬ nI a = nI b) (h4 : inw x 0 1 = true) {y : Option ix_V × ix_W} (kk : Ev m_X4_link 33 [some (.inr 0), some (.inl (nI a)), some (.inl (nI b)), some (.inl x), none, none, none] [] (cw n c tb tn tl se on dd ch ro ot ow tr tu ld lc cc br bw) y) : Ev m_X4_link 0 (ix_en m_X4_link [.inr 0, .inl (nI a), .inl (nI b), .inl x]) [] (cw n c tb tn tl se on dd ch ro ot ow tr tu ld lc cc br bw) y := by
  refine Ev.to 999 rfl ?_
  refine Ev.callV (rest := []) rfl rfl (c_isLetter _) ?_
  refine Ev.to 999 rfl ?_
  refine Ev.ff (by rw [bz_t h1]; decide) ?_
  refine Ev.to 999 rfl ?_
  refine Ev.callV (rest := []) rfl rfl (c_isLetter _) ?_
  refine Ev.to 999 rfl ?_
  refine Ev.ff (by rw [bz_t h2]; decide) ?_
  refine Ev.to 999 rfl ?_
  refine Ev.ff h3 ?_
  refine Ev.to 999 rfl ?_
  refine Ev.callS (rest := []) rfl rfl (e_isWithin _ _ _ _) ?_
  refine Ev.to 999 rfl ?_
  refine Ev.ff (by rw [bz_t h4]; decide) ?_
  exact kk
theorem c_link_not {n : Nat} {c : Int32} {tb tn : Nat → Int32} {tl : Nat} {se on : Nat → Int32} {dd : Int32} {ch ro ot ow tr tu ld : Nat → Int32} {lc : Nat} {cc br bw : Int32} (hn : n ≤ 8) {a b : Nat} {x : Int32} (ha : a < 8) (hb : b < 8) (h1 : inw (nI a) 0 (nI n - 1) = true) (h2 : inw (nI b) 0 (nI n - 1) = true) (h3 : ¬ nI a = nI b) (h4 : inw x 0 1 = true) (h : tb (8 * a + b) = 0 ∨ ¬ g_ff n tb ch dd = 0) : Cl m_X4_link [.inr 0, .inl (nI a), .inl (nI b), .inl x] (cw n c tb tn tl se on dd ch ro ot ow tr tu ld lc cc br bw) (some (.inl (-3))) (cw n c tb tn tl se on dd ch ro ot ow tr tu ld lc cc br bw) := by
  refine c_link_go h1 h2 h3 h4 ?_
  have no : Ev m_X4_link 59 [some (.inr 0), some (.inl (nI a)), some (.inl (nI b)), some (.inl x), none, none, none] [] (cw n c tb tn tl se on dd ch ro ot ow tr tu ld lc cc br bw) (some (.inl (-3)), (cw n c tb tn tl se on dd ch ro ot ow tr tu ld lc cc br bw)) := by
    refine Ev.to 999 rfl ?_
    exact Ev.iret rfl rfl rfl rfl
  refine Ev.to 999 rfl ?_
  refine Ev.callV (rest := []) rfl rfl (e_between ha hb) ?_
  refine Ev.to 999 rfl ?_
  refine Ev.if_ (fun _ => no) (fun h5 => ?_)
  refine Ev.to 999 rfl ?_
  refine Ev.callV (rest := []) rfl rfl (e_firstFailing hn) ?_
  refine Ev.to 999 rfl ?_
  refine Ev.if_ (fun h6 => ?_) (fun _ => no)
  rcases h with h | h
  · exact absurd h h5
  · exact absurd h6 h
def g_lk (ch : Nat → Int32) (a b : Nat) (x : Int32) : Int32 := if x = 0 then itz (ch (min a b) &&& g_nb (ch (max a b))) else itz (ch (max a b) &&& g_nb ((1 : Int32) <<< (itz (ch (min a b) &&& g_nb (ch (max a b))) &&& 31)))
theorem c_link {n : Nat} {c : Int32} {tb tn : Nat → Int32} {tl : Nat} {se on : Nat → Int32} {dd : Int32} {ch ro ot ow tr tu ld : Nat → Int32} {lc : Nat} {cc br bw : Int32} (hn : n ≤ 8) {a b : Nat} {x : Int32} (ha : a < 8) (hb : b < 8) (h1 : inw (nI a) 0 (nI n - 1) = true) (h2 : inw (nI b) 0 (nI n - 1) = true) (h3 : ¬ nI a = nI b) (h4 : inw x 0 1 = true) (h5 : ¬ tb (8 * a + b) = 0) (h6 : g_ff n tb ch dd = 0) : Cl m_X4_link [.inr 0, .inl (nI a), .inl (nI b), .inl x] (cw n c tb tn tl se on dd ch ro ot ow tr tu ld lc cc br bw) (some (.inl (g_lk ch a b x))) (cw n c tb tn tl se on dd ch ro ot ow tr tu ld lc cc br bw) := by
  refine c_link_go h1 h2 h3 h4 ?_
  rw [g_lk]
  refine Ev.to 999 rfl ?_
  refine Ev.callV (rest := []) rfl rfl (e_between ha hb) ?_
  refine Ev.to 999 rfl ?_
  refine Ev.ff h5 ?_
  refine Ev.to 999 rfl ?_
  refine Ev.callV (rest := []) rfl rfl (e_firstFailing hn) ?_
  refine Ev.to 999 rfl ?_
  refine Ev.tt h6 ?_
  refine Ev.to 999 rfl ?_
  refine Ev.callS (rest := []) rfl rfl (j_min _ _ _) ?_
  rw [imin_nat (by omega) (by omega)]
  refine Ev.to 999 (L1 := [_, _, _, _, _, _, _]) rfl ?_
  refine Ev.callS (rest := []) rfl rfl (j_max _ _ _) ?_
  rw [imax_nat (by omega) (by omega)]
  refine Ev.to 999 (L1 := [_, _, _, _, _, _, _]) rfl ?_
  refine Ev.callV (rest := []) rfl rfl (e_linkFrom (by omega) (by omega)) ?_
  generalize itz (ch (min a b) &&& g_nb (ch (max a b))) = f
  refine Ev.to 999 (L1 := [_, _, _, _, _, _, _]) rfl ?_
  refine Ev.if_ (fun h => ?_) (fun h => ?_)
  · rw [if_pos h]
    refine Ev.to 999 rfl ?_
    exact Ev.iret rfl rfl rfl rfl
  · rw [if_neg h]
    refine Ev.to 999 rfl ?_
    refine Ev.callV (rest := []) rfl rfl (e_linkTo _ (by omega)) ?_
    exact Ev.iret rfl rfl rfl rfl
theorem c_strong_no {n : Nat} {c : Int32} {tb tn : Nat → Int32} {tl : Nat} {se on : Nat → Int32} {dd : Int32} {ch ro ot ow tr tu ld : Nat → Int32} {lc : Nat} {cc br bw : Int32} (hn : n ≤ 8) (h : ¬ g_ff n tb ch dd = 0) : Cl m_X4_strong [.inr 0] (cw n c tb tn tl se on dd ch ro ot ow tr tu ld lc cc br bw) (some (.inl (-3))) (cw n c tb tn tl se on dd ch ro ot ow tr tu ld lc cc br bw) := by
  refine Ev.to 999 rfl ?_
  refine Ev.callV (rest := []) rfl rfl (e_firstFailing hn) ?_
  refine Ev.to 999 rfl ?_
  refine Ev.ff h ?_
  refine Ev.to 999 rfl ?_
  exact Ev.iret rfl rfl rfl rfl
theorem c_strong {n : Nat} {c : Int32} {tb tn : Nat → Int32} {tl : Nat} {se on : Nat → Int32} {dd : Int32} {ch ro ot ow tr tu ld : Nat → Int32} {lc : Nat} {cc br bw : Int32} (hn : n ≤ 8) (h : g_ff n tb ch dd = 0) {l0 : Nat → Nat} {lf lt : Nat → Nat → Nat} (h0 : ∀ i, i < n → itz (ch i) = nI (l0 i) ∧ l0 i < 20) (h1 : ∀ i j, i < j → j < n → ¬ tb (8 * i + j) = 0 → itz (ch i &&& g_nb (ch j)) = nI (lf i j) ∧ lf i j < 20 ∧ itz (ch j &&& g_nb ((1 : Int32) <<< (nI (lf i j) &&& 31))) = nI (lt i j) ∧ lt i j < 20)
    {cl : Nat → Nat} (hcl : ∀ j, j < (fd (g_lc (fd (g_all ch) 0 8)) (ld, 0) 20).2 → (fd (g_lc (fd (g_all ch) 0 8)) (ld, 0) 20).1 j = nI (cl j) ∧ cl j < 20) :
    Cl m_X4_strong [.inr 0] (cw n c tb tn tl se on dd ch ro ot ow tr tu ld lc cc br bw) (some (.inl (fd (g_h (fd (g_oo n tb l0 lf lt) (fd zf ow 20, fd zf tr 20, fd zf tu 20) n).1 (fd (g_oo n tb l0 lf lt) (fd zf ow 20, fd zf tr 20, fd zf tu 20) n).2.1 (fd (g_oo n tb l0 lf lt) (fd zf ow 20, fd zf tr 20, fd zf tu 20) n).2.2 cl (fd (g_bri ch) 0 8) (fd (g_bbe ch) 0 8) (g_low n (g_fill n c tb ro))) (0, 0, c) (2 ^ (fd (g_lc (fd (g_all ch) 0 8)) (ld, 0) 20).2 - 1)).1)) (cw n c tb tn tl se on dd ch (g_fill n c tb ro) ot ((fd (g_oo n tb l0 lf lt) (fd zf ow 20, fd zf tr 20, fd zf tu 20) n).1) ((fd (g_oo n tb l0 lf lt) (fd zf ow 20, fd zf tr 20, fd zf tu 20) n).2.1) ((fd (g_oo n tb l0 lf lt) (fd zf ow 20, fd zf tr 20, fd zf tu 20) n).2.2) ((fd (g_lc (fd (g_all ch) 0 8)) (ld, 0) 20).1) ((fd (g_lc (fd (g_all ch) 0 8)) (ld, 0) 20).2) (c) (fd (g_bri ch) 0 8) (fd (g_bbe ch) 0 8)) := by
  refine Ev.to 999 rfl ?_
  refine Ev.callV (rest := []) rfl rfl (e_firstFailing hn) ?_
  refine Ev.to 999 rfl ?_
  refine Ev.tt h ?_
  refine Ev.to 999 rfl ?_
  refine Ev.callV (rest := []) rfl rfl (e_fillro hn) ?_
  refine Ev.to 999 rfl ?_
  refine Ev.callV (rest := []) rfl rfl (e_layOut hn h0 h1) ?_
  refine Ev.to 999 rfl ?_
  refine Ev.callV (rest := [_]) rfl rfl (c_leastOfRow hn) ?_
  refine Ev.callV (rest := []) rfl rfl (e_leastHold (g_lc_le _ _ _) hcl _) ?_
  exact Ev.iret rfl rfl rfl rfl
def g_rb (ch : Nat → Int32) (l0 : Nat → Nat) (x : Int32) (i : Nat) (a : Int32) : Int32 := a ||| (g_mo (ch i) x (l0 i) <<< (nI i &&& 31))
theorem c_readBack_bad {n : Nat} {c : Int32} {tb tn : Nat → Int32} {tl : Nat} {se on : Nat → Int32} {dd : Int32} {ch ro ot ow tr tu ld : Nat → Int32} {lc : Nat} {cc br bw : Int32} {x : Int32} (h : ¬ x &&& (fd (g_all ch) 0 8 ^^^ (-1)) = 0) : Cl m_X4_readBack [.inr 0, .inl x] (cw n c tb tn tl se on dd ch ro ot ow tr tu ld lc cc br bw) (some (.inl (-2))) (cw n c tb tn tl se on dd ch ro ot ow tr tu ld lc cc br bw) := by
  refine Ev.to 999 rfl ?_
  refine Ev.callV rfl rfl e_cells ?_
  refine Ev.to 999 rfl ?_
  refine Ev.ff h ?_
  refine Ev.to 999 rfl ?_
  exact Ev.iret rfl rfl rfl rfl
theorem c_readBack_not {n : Nat} {c : Int32} {tb tn : Nat → Int32} {tl : Nat} {se on : Nat → Int32} {dd : Int32} {ch ro ot ow tr tu ld : Nat → Int32} {lc : Nat} {cc br bw : Int32} (hn : n ≤ 8) {x : Int32} (h : x &&& (fd (g_all ch) 0 8 ^^^ (-1)) = 0) (h2 : ¬ g_ff n tb ch dd = 0) : Cl m_X4_readBack [.inr 0, .inl x] (cw n c tb tn tl se on dd ch ro ot ow tr tu ld lc cc br bw) (some (.inl (-3))) (cw n c tb tn tl se on dd ch ro ot ow tr tu ld lc cc br bw) := by
  refine Ev.to 999 rfl ?_
  refine Ev.callV rfl rfl e_cells ?_
  refine Ev.to 999 rfl ?_
  refine Ev.tt h ?_
  refine Ev.to 999 rfl ?_
  refine Ev.callV (rest := []) rfl rfl (e_firstFailing hn) ?_
  refine Ev.to 999 rfl ?_
  refine Ev.ff h2 ?_
  refine Ev.to 999 rfl ?_
  exact Ev.iret rfl rfl rfl rfl
theorem c_readBack {n : Nat} {c : Int32} {tb tn : Nat → Int32} {tl : Nat} {se on : Nat → Int32} {dd : Int32} {ch ro ot ow tr tu ld : Nat → Int32} {lc : Nat} {cc br bw : Int32} (hn : n ≤ 8) {x : Int32} (h : x &&& (fd (g_all ch) 0 8 ^^^ (-1)) = 0) (h2 : g_ff n tb ch dd = 0) {l0 : Nat → Nat} (h0 : ∀ i, i < n → itz (ch i) = nI (l0 i)) : Cl m_X4_readBack [.inr 0, .inl x] (cw n c tb tn tl se on dd ch ro ot ow tr tu ld lc cc br bw) (some (.inl (fd (g_rb ch l0 x) 0 n))) (cw n c tb tn tl se on dd ch ro ot ow tr tu ld lc cc br bw) := by
  refine Ev.to 999 rfl ?_
  refine Ev.callV rfl rfl e_cells ?_
  refine Ev.to 999 rfl ?_
  refine Ev.tt h ?_
  refine Ev.to 999 rfl ?_
  refine Ev.callV (rest := []) rfl rfl (e_firstFailing hn) ?_
  refine Ev.to 999 rfl ?_
  refine Ev.tt h2 ?_
  refine Ev.to 38 (L1 := [_, _, _, _]) (st1 := []) rfl ?_
  refine Ev.loop (fun i => [some (.inr 0), some (.inl x), some (.inl (fd (g_rb ch l0 x) 0 i)), some (.inl (nI i))]) (fun _ => (cw n c tb tn tl se on dd ch ro ot ow tr tu ld lc cc br bw)) (fun _ => True) 0 n (Nat.zero_le n) trivial (fun i _ hi _ kk => ?_) (fun _ => ?_)
  · have kk := kk trivial
    rw [nI_succ, fd, g_rb] at kk
    refine Ev.to 999 rfl ?_
    refine Ev.callV rfl rfl e_size ?_
    refine Ev.to 999 rfl ?_
    refine Ev.ff (nI_ng hi (by omega)) ?_
    refine Ev.to 999 rfl ?_
    refine Ev.callV rfl rfl (e_mostOf (by omega) (h0 i hi) _) ?_
    exact Ev.to 38 (L1 := [_, _, _, _]) rfl kk
  · refine Ev.to 999 rfl ?_
    refine Ev.callV rfl rfl e_size ?_
    refine Ev.to 999 rfl ?_
    refine Ev.tt (nI_gg (by omega)) ?_
    refine Ev.to 999 rfl ?_
    exact Ev.iret rfl rfl rfl rfl
theorem c_turn_bad {n : Nat} {c : Int32} {tb tn : Nat → Int32} {tl : Nat} {se on : Nat → Int32} {dd : Int32} {ch ro ot ow tr tu ld : Nat → Int32} {lc : Nat} {cc br bw : Int32} (hn : n ≤ 8) {s : Int32} (h : inw s 0 (nI (2 ^ n) - 1) = false) : Cl m_X4_turn [.inr 0, .inl s] (cw n c tb tn tl se on dd ch ro ot ow tr tu ld lc cc br bw) (some (.inl (-2147483648))) (cw n c tb tn tl se on dd ch ro ot ow tr tu ld lc cc br bw) := by
  refine Ev.to 999 rfl ?_
  refine Ev.callV (rest := []) rfl rfl (c_isSet hn _) ?_
  refine Ev.to 999 rfl ?_
  refine Ev.tt (bz_f h) ?_
  refine Ev.to 999 rfl ?_
  exact Ev.iret rfl rfl rfl rfl
theorem c_turn_not {n : Nat} {c : Int32} {tb tn : Nat → Int32} {tl : Nat} {se on : Nat → Int32} {dd : Int32} {ch ro ot ow tr tu ld : Nat → Int32} {lc : Nat} {cc br bw : Int32} (hn : n ≤ 8) {s : Int32} (h : inw s 0 (nI (2 ^ n) - 1) = true) {i j : Nat} (hi : i < n) (hj : j < n) (h1 : ∀ i2, i2 < i → ∀ j, j < n → g_tk n tb s i2 j = true) (h2 : ∀ j2, j2 < j → g_tk n tb s i j2 = true) (h3 : g_tk n tb s i j = false) : ∃ tn2, Cl m_X4_turn [.inr 0, .inl s] (cw n c tb tn tl se on dd ch ro ot ow tr tu ld lc cc br bw) (some (.inl (-3))) (cw n c tb (tn2) tl se on dd ch ro ot ow tr tu ld lc cc br bw) := by
  obtain ⟨tn2, ht⟩ := e_turnNo (c := c) (tn := tn) (tl := tl) (se := se) (on := on) (dd := dd) (ch := ch) (ro := ro) (ot := ot) (ow := ow) (tr := tr) (tu := tu) (ld := ld) (lc := lc) (cc := cc) (br := br) (bw := bw) hn s hi hj h1 h2 h3
  refine ⟨tn2, ?_⟩
  refine Ev.to 999 rfl ?_
  refine Ev.callV (rest := []) rfl rfl (c_isSet hn _) ?_
  refine Ev.to 999 rfl ?_
  refine Ev.ff (by rw [bz_t h]; decide) ?_
  refine Ev.to 999 rfl ?_
  refine Ev.callV (rest := []) rfl rfl ht ?_
  refine Ev.to 999 (pc1 := 22) rfl ?_
  refine Ev.to 999 rfl ?_
  exact Ev.iret rfl rfl rfl rfl
theorem c_turn {n : Nat} {c : Int32} {tb tn : Nat → Int32} {tl : Nat} {se on : Nat → Int32} {dd : Int32} {ch ro ot ow tr tu ld : Nat → Int32} {lc : Nat} {cc br bw : Int32} (hn : n ≤ 8) {s : Int32} (h : inw s 0 (nI (2 ^ n) - 1) = true) (hk : ∀ i, i < n → ∀ j, j < n → g_tk n tb s i j = true) : Cl m_X4_turn [.inr 0, .inl s] (cw n c tb tn tl se on dd ch ro ot ow tr tu ld lc cc br bw) (some (.inl (g_en n c tb s))) (cw n (g_en n c tb s) (fd (g_cr n (fd (g_tr n tb s) tn n)) tb n) (fd (g_tr n tb s) tn n) tl se on dd ch ro ot ow tr tu ld lc cc br bw) := by
  refine Ev.to 999 rfl ?_
  refine Ev.callV (rest := []) rfl rfl (c_isSet hn _) ?_
  refine Ev.to 999 rfl ?_
  refine Ev.ff (by rw [bz_t h]; decide) ?_
  refine Ev.to 999 rfl ?_
  refine Ev.callV (rest := []) rfl rfl (e_turnYes hn s hk) ?_
  refine Ev.to 999 (pc1 := 25) rfl ?_
  refine Ev.to 999 rfl ?_
  refine Ev.callV (rest := []) rfl rfl e_constant ?_
  exact Ev.iret rfl rfl rfl rfl
theorem c_cut_no {n : Nat} {c : Int32} {tb tn : Nat → Int32} {tl : Nat} {se on : Nat → Int32} {dd : Int32} {ch ro ot ow tr tu ld : Nat → Int32} {lc : Nat} {cc br bw : Int32} {s : Int32} (h : inw s 1 20 = false) : Cl m_X4_cut [.inr 0, .inl s] (cw n c tb tn tl se on dd ch ro ot ow tr tu ld lc cc br bw) (some (.inl (-2))) (cw n c tb tn tl se on dd ch ro ot ow tr tu ld lc cc br bw) := by
  refine Ev.to 999 rfl ?_
  refine Ev.callS (rest := []) rfl rfl (e_isWithin _ _ _ _) ?_
  refine Ev.to 999 rfl ?_
  refine Ev.tt (bz_f h) ?_
  refine Ev.to 999 rfl ?_
  exact Ev.iret rfl rfl rfl rfl
def g_ls (A B : Nat → Int32) (s : Nat) (a : Int32) : Int32 := imax a (iabs (A s - B s))
theorem c_cut {n : Nat} {c : Int32} {tb tn : Nat → Int32} {tl : Nat} {se on : Nat → Int32} {dd : Int32} {ch ro ot ow tr tu ld : Nat → Int32} {lc : Nat} {cc br bw : Int32} (hn : n ≤ 8) {s : Int32} (h : inw s 1 20 = true) (hs : s ≠ 0) : Cl m_X4_cut [.inr 0, .inl s] (cw n c tb tn tl se on dd ch ro ot ow tr tu ld lc cc br bw) (some (.inl (fd (g_ls (g_fill n c (fd (g_ct s) tb 64) ot) (g_fill n c tb ro)) 0 (2 ^ n)))) (cw n c (fd (g_ct s) tb 64) tn tl se on dd ch (g_fill n c tb ro) (g_fill n c (fd (g_ct s) tb 64) ot) ow tr tu ld lc cc br bw) := by
  obtain ⟨hp1, hp2⟩ := pw_le hn
  refine Ev.to 999 rfl ?_
  refine Ev.callS (rest := []) rfl rfl (e_isWithin _ _ _ _) ?_
  refine Ev.to 999 rfl ?_
  refine Ev.ff (by rw [bz_t h]; decide) ?_
  refine Ev.to 999 rfl ?_
  refine Ev.callV (rest := []) rfl rfl (e_fillro hn) ?_
  refine Ev.to 999 rfl ?_
  refine Ev.callV (rest := []) rfl rfl (e_cutTo hs) ?_
  refine Ev.to 999 rfl ?_
  refine Ev.callV (rest := []) rfl rfl (e_fillot hn) ?_
  generalize g_fill n c tb ro = B
  generalize fd (g_ct s) tb 64 = T
  generalize g_fill n c T ot = A
  refine Ev.to 47 (L1 := [_, _, _, _]) (st1 := []) rfl ?_
  refine Ev.loop (fun x => [some (.inr 0), some (.inl s), some (.inl (fd (g_ls A B) 0 x)), some (.inl (nI x))]) (fun _ => (cw n c (T) tn tl se on dd ch (B) (A) ow tr tu ld lc cc br bw)) (fun _ => True) 0 (2 ^ n) (Nat.zero_le _) trivial (fun x _ hx _ kk => ?_) (fun _ => ?_)
  · have kk := kk trivial
    rw [nI_succ, fd, g_ls] at kk
    refine Ev.to 999 rfl ?_
    refine Ev.callV rfl rfl (e_states hn) ?_
    refine Ev.to 999 rfl ?_
    refine Ev.ff (nI_ng hx (by omega)) ?_
    refine Ev.to 999 rfl ?_
    refine Ev.ald rfl rfl (by omega) (by decide) ?_
    refine Ev.to 999 rfl ?_
    refine Ev.ald rfl rfl (by omega) (by decide) ?_
    refine Ev.to 999 rfl ?_
    refine Ev.callS rfl rfl (j_abs _ _) ?_
    refine Ev.callS rfl rfl (j_max _ _ _) ?_
    exact Ev.to 47 (L1 := [_, _, _, _]) rfl kk
  · refine Ev.to 999 rfl ?_
    refine Ev.callV rfl rfl (e_states hn) ?_
    refine Ev.to 999 rfl ?_
    refine Ev.tt (nI_gg (by omega)) ?_
    refine Ev.to 999 rfl ?_
    exact Ev.iret rfl rfl rfl rfl
/-! walk -/
def g_wok (n : Nat) (s h m x : Int32) : Bool := inw s 0 (nI (2 ^ n) - 1) && (inw h 0 100 && (inw m 1 200 && inw x 0 1))
theorem c_walk_no {n : Nat} {c : Int32} {tb tn : Nat → Int32} {tl : Nat} {se on : Nat → Int32} {dd : Int32} {ch ro ot ow tr tu ld : Nat → Int32} {lc : Nat} {cc br bw : Int32} (hn : n ≤ 8) {s d h m x : Int32} (hk : g_wok n s h m x = false) : Cl m_X4_walk [.inr 0, .inl s, .inl d, .inl h, .inl m, .inl x] (cw n c tb tn tl se on dd ch ro ot ow tr tu ld lc cc br bw) (some (.inl (-2147483648))) (cw n c tb tn tl se on dd ch ro ot ow tr tu ld lc cc br bw) := by
  have no : Ev m_X4_walk 40 [some (.inr 0), some (.inl s), some (.inl d), some (.inl h), some (.inl m), some (.inl x), none, none, none, none, none, none, none, none] [] (cw n c tb tn tl se on dd ch ro ot ow tr tu ld lc cc br bw) (some (.inl (-2147483648)), (cw n c tb tn tl se on dd ch ro ot ow tr tu ld lc cc br bw)) := by
    refine Ev.to 999 rfl ?_
    exact Ev.iret rfl rfl rfl rfl
  refine Ev.to 999 rfl ?_
  refine Ev.callV (rest := []) rfl rfl (c_isSet hn _) ?_
  refine Ev.to 999 rfl ?_
  refine Ev.on (fun _ => no) (fun h1 => ?_)
  refine Ev.to 999 rfl ?_
  refine Ev.callS (rest := []) rfl rfl (e_isWithin _ _ _ _) ?_
  refine Ev.to 999 rfl ?_
  refine Ev.on (fun _ => no) (fun h2 => ?_)
  refine Ev.to 999 rfl ?_
  refine Ev.callS (rest := []) rfl rfl (e_isWithin _ _ _ _) ?_
  refine Ev.to 999 rfl ?_
  refine Ev.on (fun _ => no) (fun h3 => ?_)
  refine Ev.to 999 rfl ?_
  refine Ev.callS (rest := []) rfl rfl (e_isWithin _ _ _ _) ?_
  refine Ev.to 999 rfl ?_
  refine Ev.on (fun _ => no) (fun h4 => ?_)
  rw [g_wok, h1, h2, h3, h4] at hk
  exact absurd hk (by decide)
def w_z (z : Int32) : Int32 := (z * 1103515245 + 12345) &&& 2147483647
def w_q (z : Int32) : Nat := (w_z z).toNatClampNeg
theorem w_zq (z : Int32) : w_z z = nI (w_q z) ∧ w_q z < 2 ^ 31 := by
  have h : w_z z = nI ((z * 1103515245 + 12345).toBitVec.toNat % 2 ^ 31) := pk_and _ 31 (by decide)
  have hlt : (z * 1103515245 + 12345).toBitVec.toNat % 2 ^ 31 < 2 ^ 31 := Nat.mod_lt _ (by decide)
  unfold w_q
  rw [h, nI_clamp hlt]
  exact ⟨rfl, hlt⟩
def w_l (n : Nat) (z : Int32) : Nat := w_q z / 65536 % n
def w_t (z : Int32) (t : Nat) : Int32 := nI (w_q z / 256 % (t + 1))
def w_n (j t : Nat) : Nat := if (j + 1) % 10 = 0 then t * 9 / 10 else t
abbrev w_S : Type := Int32 × Nat × Int32 × Int32 × Int32
def g_w (n : Nat) (tb : Nat → Int32) (j : Nat) (p : w_S) : w_S := if g_cb n tb (w_l n p.1) p.2.2.1 ≤ w_t p.1 p.2.1 then (w_z p.1, w_n j p.2.1, p.2.2.1 ^^^ ((1 : Int32) <<< (nI (w_l n p.1) &&& 31)), p.2.2.2.1 + g_cb n tb (w_l n p.1) p.2.2.1, imin p.2.2.2.2 (p.2.2.2.1 + g_cb n tb (w_l n p.1) p.2.2.1)) else (w_z p.1, w_n j p.2.1, p.2.2.1, p.2.2.2.1, p.2.2.2.2)
theorem w_n_le (j t : Nat) : w_n j t ≤ t := by
  unfold w_n
  split
  · omega
  · exact Nat.le_refl t
theorem g_w_le (n : Nat) (tb : Nat → Int32) (p : w_S) (j : Nat) : (fd (g_w n tb) p j).2.1 ≤ p.2.1 := by
  induction j with
  | zero => exact Nat.le_refl _
  | succ j ih =>
    rw [fd, g_w]
    split
    · exact Nat.le_trans (w_n_le _ _) ih
    · exact Nat.le_trans (w_n_le _ _) ih
theorem c_walk_end {n : Nat} {c : Int32} {tb tn : Nat → Int32} {tl : Nat} {se on : Nat → Int32} {dd : Int32} {ch ro ot ow tr tu ld : Nat → Int32} {lc : Nat} {cc br bw : Int32} {z1 z2 z3 z4 z6 z7 z9 z11 z12 z13 : Option ix_V} (x h l : Int32) : Ev m_X4_walk 183 [some (.inr 0), z1, z2, z3, z4, some (.inl x), z6, z7, some (.inl h), z9, some (.inl l), z11, z12, z13] [] (cw n c tb tn tl se on dd ch ro ot ow tr tu ld lc cc br bw) (some (.inl (if x = 0 then h else l)), (cw n c tb tn tl se on dd ch ro ot ow tr tu ld lc cc br bw)) := by
  refine Ev.to 999 rfl ?_
  refine Ev.if_ (fun h => ?_) (fun h => ?_)
  · refine Ev.to 999 rfl ?_
    exact Ev.iret rfl rfl (by rw [if_pos h]) rfl
  · refine Ev.to 999 rfl ?_
    exact Ev.iret rfl rfl (by rw [if_neg h]) rfl
theorem ne_nat {a : Nat} (h0 : 0 < a) (h : a < 2 ^ 31) : nI a ≠ 0 := nI_ne0 h0 h
theorem c_walk {n : Nat} {c : Int32} {tb tn : Nat → Int32} {tl : Nat} {se on : Nat → Int32} {dd : Int32} {ch ro ot ow tr tu ld : Nat → Int32} {lc : Nat} {cc br bw : Int32} (hn : n ≤ 8) (hn1 : 1 ≤ n) {s d x : Int32} {ht m : Nat} (hh : ht ≤ 100) (hm : m ≤ 200) (hk : g_wok n s (nI ht) (nI m) x = true) : Cl m_X4_walk [.inr 0, .inl s, .inl d, .inl (nI ht), .inl (nI m), .inl x] (cw n c tb tn tl se on dd ch ro ot ow tr tu ld lc cc br bw) (some (.inl (if x = 0 then (fd (g_w n tb) (d, ht, s, g_en n c tb s, g_en n c tb s) m).2.2.1 else (fd (g_w n tb) (d, ht, s, g_en n c tb s, g_en n c tb s) m).2.2.2.2))) (cw n c tb tn tl se on dd ch ro ot ow tr tu ld lc cc br bw) := by
  rw [g_wok, Bool.and_eq_true, Bool.and_eq_true, Bool.and_eq_true] at hk
  obtain ⟨k1, k2, k3, k4⟩ := hk
  refine Ev.to 999 rfl ?_
  refine Ev.callV (rest := []) rfl rfl (c_isSet hn _) ?_
  refine Ev.to 999 rfl ?_
  refine Ev.ff (by rw [bz_t k1]; decide) ?_
  refine Ev.to 999 rfl ?_
  refine Ev.callS (rest := []) rfl rfl (e_isWithin _ _ _ _) ?_
  refine Ev.to 999 rfl ?_
  refine Ev.ff (by rw [bz_t k2]; decide) ?_
  refine Ev.to 999 rfl ?_
  refine Ev.callS (rest := []) rfl rfl (e_isWithin _ _ _ _) ?_
  refine Ev.to 999 rfl ?_
  refine Ev.ff (by rw [bz_t k3]; decide) ?_
  refine Ev.to 999 rfl ?_
  refine Ev.callS (rest := []) rfl rfl (e_isWithin _ _ _ _) ?_
  refine Ev.to 999 rfl ?_
  refine Ev.ff (by rw [bz_t k4]; decide) ?_
  refine Ev.to 999 (L1 := [_, _, _, _, _, _, _, _, _, _, _, _, _, _]) rfl ?_
  refine Ev.callV (rest := []) rfl rfl (e_energyOf hn _) ?_
  generalize g_en n c tb s = e0
  refine Ev.to 69 (L1 := [_, _, _, _, _, _, _, _, _, _, _, _, _, _]) (st1 := []) rfl ?_
  refine Ev.loop (fun j => [some (.inr 0), some (.inl s), some (.inl d), some (.inl (nI ht)), some (.inl (nI m)), some (.inl x), some (.inl (fd (g_w n tb) (d, ht, s, e0, e0) j).1), some (.inl (nI (fd (g_w n tb) (d, ht, s, e0, e0) j).2.1)), some (.inl (fd (g_w n tb) (d, ht, s, e0, e0) j).2.2.1), some (.inl (fd (g_w n tb) (d, ht, s, e0, e0) j).2.2.2.1), some (.inl (fd (g_w n tb) (d, ht, s, e0, e0) j).2.2.2.2), some (.inl (nI (j + 1))), none, none]) (fun _ => (cw n c tb tn tl se on dd ch ro ot ow tr tu ld lc cc br bw)) (fun _ => True) 0 m (Nat.zero_le m) trivial (fun j _ hj _ kk => ?_) (fun _ => ?_)
  · have kk := kk trivial
    have hle := g_w_le n tb (d, ht, s, e0, e0) j
    rw [nI_succ (j + 1), fd, g_w] at kk
    generalize fd (g_w n tb) (d, ht, s, e0, e0) j = p at kk hle ⊢
    obtain ⟨z, t, h, e, l⟩ := p
    dsimp only at kk hle ⊢
    obtain ⟨hz1, hz2⟩ := w_zq z
    have hlt : w_l n z < n := Nat.mod_lt _ (by omega)
    refine Ev.to 999 rfl ?_
    refine Ev.ff (nI_ngt (by omega) (by omega)) ?_
    refine Ev.to 90 (L1 := [_, _, _, _, _, _, some (.inl (w_z z)), _, _, _, _, _, _, _]) (st1 := []) rfl ?_
    rw [hz1] at kk ⊢
    refine Ev.to 999 rfl ?_
    refine Ev.dv rfl (by decide) ?_
    rw [show nI (w_q z) / 65536 = nI (w_q z / 65536) from pk_div (d := 65536) hz2 (by omega) (by omega)]
    refine Ev.to 999 rfl ?_
    refine Ev.callV (rest := [_]) rfl rfl e_size ?_
    refine Ev.rm rfl (ne_nat (by omega) (by omega)) ?_
    rw [pk_rem (d := n) (Nat.lt_of_le_of_lt (Nat.div_le_self _ _) hz2) (by omega) (by omega)]
    show Ev _ _ _ (.inl (nI (w_l n z)) :: _) _ _
    refine Ev.to 999 (L1 := [_, _, _, _, _, _, _, _, _, _, _, _, _, _]) rfl ?_
    refine Ev.callV (rest := []) rfl rfl (e_changeBy hn (by omega) _) ?_
    refine Ev.to 999 (L1 := [_, _, _, _, _, _, _, _, _, _, _, _, _, _]) rfl ?_
    refine Ev.dv rfl (by decide) ?_
    rw [show nI (w_q z) / 256 = nI (w_q z / 256) from pk_div (d := 256) hz2 (by omega) (by omega)]
    refine Ev.to 999 rfl ?_
    refine Ev.rm rfl (by show nI t + 1 ≠ 0; rw [nI_1]; exact ne_nat (by omega) (by omega)) ?_
    have et : (nI (w_q z / 256) - nI (w_q z / 256) / (nI t + 1) * (nI t + 1)) = w_t z t := by
      rw [nI_1]; exact pk_rem (d := t + 1) (Nat.lt_of_le_of_lt (Nat.div_le_self _ _) hz2) (by omega) (by omega)
    show Ev _ _ _ (.inl (nI (w_q z / 256) - nI (w_q z / 256) / (nI t + 1) * (nI t + 1)) :: _) _ _
    rw [et]
    generalize w_t z t = T at kk ⊢
    generalize g_cb n tb (w_l n z) h = g at kk ⊢
    generalize w_l n z = q at hlt kk ⊢
    -- the tail: every tenth move
    have tail : ∀ (h2 e2 l2 : Int32) (z12 z13 : Option ix_V), Ev m_X4_walk 69 [some (.inr 0), some (.inl s), some (.inl d), some (.inl (nI ht)), some (.inl (nI m)), some (.inl x), some (.inl (nI (w_q z))), some (.inl (nI (w_n j t))), some (.inl h2), some (.inl e2), some (.inl l2), some (.inl (nI (j + 1) + 1)), none, none] [] (cw n c tb tn tl se on dd ch ro ot ow tr tu ld lc cc br bw) (some (.inl (if x = 0 then (fd (g_w n tb) (d, ht, s, e0, e0) m).2.2.1 else (fd (g_w n tb) (d, ht, s, e0, e0) m).2.2.2.2)), (cw n c tb tn tl se on dd ch ro ot ow tr tu ld lc cc br bw)) → Ev m_X4_walk 159 [some (.inr 0), some (.inl s), some (.inl d), some (.inl (nI ht)), some (.inl (nI m)), some (.inl x), some (.inl (nI (w_q z))), some (.inl (nI t)), some (.inl h2), some (.inl e2), some (.inl l2), some (.inl (nI (j + 1))), z12, z13] [] (cw n c tb tn tl se on dd ch ro ot ow tr tu ld lc cc br bw) (some (.inl (if x = 0 then (fd (g_w n tb) (d, ht, s, e0, e0) m).2.2.1 else (fd (g_w n tb) (d, ht, s, e0, e0) m).2.2.2.2)), (cw n c tb tn tl se on dd ch ro ot ow tr tu ld lc cc br bw)) := by
      intro h2 e2 l2 z12 z13 k2
      refine Ev.to 999 rfl ?_
      refine Ev.rm rfl (by decide) ?_
      rw [show nI (j + 1) - nI (j + 1) / 10 * 10 = nI ((j + 1) % 10) from pk_rem (d := 10) (by omega) (by omega) (by omega)]
      refine Ev.to 999 rfl ?_
      refine Ev.if_ (fun h5 => ?_) (fun h5 => ?_)
      · have h6 : (j + 1) % 10 = 0 := (nI_eq (b := 0) (by omega) (by omega)).mp h5
        rw [w_n, if_pos h6] at k2
        refine Ev.to 999 rfl ?_
        refine Ev.dv rfl (by decide) ?_
        have e9 : nI t * 9 / 10 = nI (t * 9 / 10) := by
          rw [show nI t * 9 = nI (t * 9) from pk_mul t 9]
          exact pk_div (d := 10) (by omega) (by omega) (by omega)
        refine Ev.to 69 (L1 := [_, _, _, _, _, _, _, some (.inl (nI t * 9 / 10)), _, _, _, _, _, _]) (st1 := []) rfl ?_
        rw [e9]
        exact Ev.fg k2 (le_cc (le_cc (le_cc (le_cc (le_cc (le_cc (le_cc (le_cc (le_cc (le_cc (le_cc (le_cc (le_nc (le_nc le_nil))))))))))))))
      · have h6 : ¬ (j + 1) % 10 = 0 := fun q => h5 ((nI_eq (b := 0) (by omega) (by omega)).mpr q)
        rw [w_n, if_neg h6] at k2
        exact Ev.to 69 (L1 := [_, _, _, _, _, _, _, _, _, _, _, _, _, _]) rfl (Ev.fg k2 (le_cc (le_cc (le_cc (le_cc (le_cc (le_cc (le_cc (le_cc (le_cc (le_cc (le_cc (le_cc (le_nc (le_nc le_nil)))))))))))))))
    refine Ev.to 999 rfl ?_
    refine Ev.if_ (fun h5 => ?_) (fun h5 => ?_)
    · rw [if_neg (fun z => i32_nlt.mpr z h5)] at kk
      exact tail _ _ _ _ _ kk
    · rw [if_pos (i32_nlt.mp h5)] at kk
      refine Ev.to 999 (L1 := [_, _, _, _, _, _, _, _, _, _, _, _, _, _]) rfl ?_
      refine Ev.callS rfl rfl (j_min _ _ _) ?_
      refine Ev.to 159 (L1 := [_, _, _, _, _, _, _, _, _, _, _, _, _, _]) (st1 := []) rfl ?_
      exact tail _ _ _ _ _ kk
  · refine Ev.to 999 rfl ?_
    refine Ev.tt (nI_gt1 (by omega)) ?_
    exact c_walk_end _ _ _
theorem Ev.tsO {k pc : Nat} {L : ix_L} {st : List ix_V} {w : ix_W} {z : Option ix_V × ix_W} {nx a0 b0 j0 tgt : Nat} {v0 x : Int32} {d lo hi : Int} {offs : Array Int} (he : ix_lk k pc = some (.tableswitch d lo hi offs, nx, a0, b0, j0, v0)) (h : x.toInt < lo ∨ hi < x.toInt) (ht : (pc : Int) + d = (tgt : Int)) (kk : Ev k tgt L st w z) : Ev k pc L (.inl x :: st) w z := by
  refine Ev.st1 he rfl ?_ kk
  simp only [ix_st, ix_tsw]
  rw [if_pos h, ht, if_pos (by omega)]
  rfl
theorem c_count_no {n : Nat} {c : Int32} {tb tn : Nat → Int32} {tl : Nat} {se on : Nat → Int32} {dd : Int32} {ch ro ot ow tr tu ld : Nat → Int32} {lc : Nat} {cc br bw : Int32} {x : Int32} (h : x.toInt < 0 ∨ 5 < x.toInt) : Cl m_X4_count [.inr 0, .inl x] (cw n c tb tn tl se on dd ch ro ot ow tr tu ld lc cc br bw) (some (.inl (-2147483648))) (cw n c tb tn tl se on dd ch ro ot ow tr tu ld lc cc br bw) := by
  refine Ev.to 999 rfl ?_
  refine Ev.tsO rfl h (tgt := 88) (by decide) ?_
  refine Ev.to 999 rfl ?_
  exact Ev.iret rfl rfl rfl rfl
theorem c_count0 {n : Nat} {c : Int32} {tb tn : Nat → Int32} {tl : Nat} {se on : Nat → Int32} {dd : Int32} {ch ro ot ow tr tu ld : Nat → Int32} {lc : Nat} {cc br bw : Int32} : Cl m_X4_count [.inr 0, .inl 0] (cw n c tb tn tl se on dd ch ro ot ow tr tu ld lc cc br bw) (some (.inl (nI n))) (cw n c tb tn tl se on dd ch ro ot ow tr tu ld lc cc br bw) := by
  refine Ev.to 999 rfl ?_
  refine Ev.st1 (pc1 := 40) rfl rfl rfl ?_
  refine Ev.to 999 rfl ?_
  refine Ev.callV rfl rfl e_size ?_
  exact Ev.iret rfl rfl rfl rfl
theorem c_count1 {n : Nat} {c : Int32} {tb tn : Nat → Int32} {tl : Nat} {se on : Nat → Int32} {dd : Int32} {ch ro ot ow tr tu ld : Nat → Int32} {lc : Nat} {cc br bw : Int32} (hn : n ≤ 8) : Cl m_X4_count [.inr 0, .inl 1] (cw n c tb tn tl se on dd ch ro ot ow tr tu ld lc cc br bw) (some (.inl (fd (g_wpr tb) 0 n))) (cw n c tb tn tl se on dd ch ro ot ow tr tu ld lc cc br bw) := by
  refine Ev.to 999 rfl ?_
  refine Ev.st1 (pc1 := 48) rfl rfl rfl ?_
  refine Ev.to 999 rfl ?_
  refine Ev.callV rfl rfl (e_weightedPairs hn) ?_
  exact Ev.iret rfl rfl rfl rfl
theorem c_count2 {n : Nat} {c : Int32} {tb tn : Nat → Int32} {tl : Nat} {se on : Nat → Int32} {dd : Int32} {ch ro ot ow tr tu ld : Nat → Int32} {lc : Nat} {cc br bw : Int32} : Cl m_X4_count [.inr 0, .inl 2] (cw n c tb tn tl se on dd ch ro ot ow tr tu ld lc cc br bw) (some (.inl (nI tl))) (cw n c tb tn tl se on dd ch ro ot ow tr tu ld lc cc br bw) := by
  refine Ev.to 999 rfl ?_
  refine Ev.st1 (pc1 := 56) rfl rfl rfl ?_
  refine Ev.to 999 rfl ?_
  refine Ev.callV rfl rfl e_lsize ?_
  exact Ev.iret rfl rfl rfl rfl
theorem c_count3 {n : Nat} {c : Int32} {tb tn : Nat → Int32} {tl : Nat} {se on : Nat → Int32} {dd : Int32} {ch ro ot ow tr tu ld : Nat → Int32} {lc : Nat} {cc br bw : Int32} : Cl m_X4_count [.inr 0, .inl 3] (cw n c tb tn tl se on dd ch ro ot ow tr tu ld lc cc br bw) (some (.inl (ibc dd))) (cw n c tb tn tl se on dd ch ro ot ow tr tu ld lc cc br bw) := by
  refine Ev.to 999 rfl ?_
  refine Ev.st1 (pc1 := 64) rfl rfl rfl ?_
  refine Ev.to 999 rfl ?_
  refine Ev.callV rfl rfl e_deadCells ?_
  exact Ev.iret rfl rfl rfl rfl
theorem c_count4 {n : Nat} {c : Int32} {tb tn : Nat → Int32} {tl : Nat} {se on : Nat → Int32} {dd : Int32} {ch ro ot ow tr tu ld : Nat → Int32} {lc : Nat} {cc br bw : Int32} : Cl m_X4_count [.inr 0, .inl 4] (cw n c tb tn tl se on dd ch ro ot ow tr tu ld lc cc br bw) (some (.inl (fd (g_tog ch) 0 8))) (cw n c tb tn tl se on dd ch ro ot ow tr tu ld lc cc br bw) := by
  refine Ev.to 999 rfl ?_
  refine Ev.st1 (pc1 := 72) rfl rfl rfl ?_
  refine Ev.to 999 rfl ?_
  refine Ev.callV rfl rfl e_lengths ?_
  exact Ev.iret rfl rfl rfl rfl
theorem c_count5 {n : Nat} {c : Int32} {tb tn : Nat → Int32} {tl : Nat} {se on : Nat → Int32} {dd : Int32} {ch ro ot ow tr tu ld : Nat → Int32} {lc : Nat} {cc br bw : Int32} : Cl m_X4_count [.inr 0, .inl 5] (cw n c tb tn tl se on dd ch ro ot ow tr tu ld lc cc br bw) (some (.inl c)) (cw n c tb tn tl se on dd ch ro ot ow tr tu ld lc cc br bw) := by
  refine Ev.to 999 rfl ?_
  refine Ev.st1 (pc1 := 80) rfl rfl rfl ?_
  refine Ev.to 999 rfl ?_
  refine Ev.callV rfl rfl e_constant ?_
  exact Ev.iret rfl rfl rfl rfl
