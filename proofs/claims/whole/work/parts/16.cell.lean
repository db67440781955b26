/-! CellEnergy -/
def zf (j : Nat) (f : Nat → Int32) : Nat → Int32 := upd f j 0
theorem e_clear {n : Nat} {c : Int32} {tb tn : Nat → Int32} {tl : Nat} {se on : Nat → Int32} {dd : Int32} {ch ro ot ow tr tu ld : Nat → Int32} {lc : Nat} {cc br bw : Int32} : Cl m_X0_clear [.inr 4] (cw n c tb tn tl se on dd ch ro ot ow tr tu ld lc cc br bw) none (cw n c tb tn tl se on dd ch ro ot (fd zf ow 20) (fd zf tr 20) (fd zf tu 20) ld lc cc br bw) := by
  refine Ev.to 2 (L1 := [_, _]) (st1 := []) rfl ?_
  refine Ev.loop (fun j => [some (.inr 4), some (.inl (nI j))]) (fun j => (cw n c tb tn tl se on dd ch ro ot (fd zf ow j) (fd zf tr j) (fd zf tu j) ld lc cc br bw)) (fun _ => True) 0 20 (by omega) trivial (fun j _ hj _ kk => ?_) (fun _ => ?_)
  · have kk := kk trivial
    rw [nI_succ, fd, fd, fd, zf, zf, zf] at kk
    refine Ev.to 999 rfl ?_
    refine Ev.ff (nI_ng (n := 20) hj (by omega)) ?_
    refine Ev.to 999 rfl ?_
    refine Ev.ast rfl rfl hj (by decide) ?_
    refine Ev.to 999 rfl ?_
    refine Ev.ast rfl rfl hj (by decide) ?_
    refine Ev.to 999 rfl ?_
    refine Ev.ast rfl rfl hj (by decide) ?_
    exact Ev.to 2 (L1 := [_, _]) rfl kk
  · refine Ev.to 999 (pc1 := 35) rfl ?_
    exact Ev.vret rfl rfl rfl
def g_lc (x : Int32) (j : Nat) (p : (Nat → Int32) × Nat) : (Nat → Int32) × Nat := if bb x j = true ∧ p.2 < 14 then (upd p.1 p.2 (nI j), p.2 + 1) else p
theorem g_lc_le (x : Int32) (f : Nat → Int32) (j : Nat) : (fd (g_lc x) (f, 0) j).2 ≤ 14 := by
  induction j with
  | zero => exact Nat.zero_le _
  | succ j ih =>
    rw [fd, g_lc]
    split
    · rename_i h; exact h.2
    · exact ih
theorem e_listCells {n : Nat} {c : Int32} {tb tn : Nat → Int32} {tl : Nat} {se on : Nat → Int32} {dd : Int32} {ch ro ot ow tr tu ld : Nat → Int32} {lc : Nat} {cc br bw : Int32} (x : Int32) : Cl m_X0_listCells [.inr 4, .inl x] (cw n c tb tn tl se on dd ch ro ot ow tr tu ld lc cc br bw) none (cw n c tb tn tl se on dd ch ro ot ow tr tu ((fd (g_lc x) (ld, 0) 20).1) ((fd (g_lc x) (ld, 0) 20).2) cc br bw) := by
  refine Ev.to 7 (L1 := [_, _, _]) (st1 := []) (w1 := (cw n c tb tn tl se on dd ch ro ot ow tr tu ld (0) cc br bw)) rfl ?_
  refine Ev.loop (fun j => [some (.inr 4), some (.inl x), some (.inl (nI j))]) (fun j => (cw n c tb tn tl se on dd ch ro ot ow tr tu ((fd (g_lc x) (ld, 0) j).1) ((fd (g_lc x) (ld, 0) j).2) cc br bw)) (fun _ => True) 0 20 (by omega) trivial (fun j _ hj _ kk => ?_) (fun _ => ?_)
  · have kk := kk trivial
    have hle := g_lc_le x ld j
    rw [nI_succ, fd, g_lc] at kk
    generalize fd (g_lc x) (ld, 0) j = p at kk hle ⊢
    obtain ⟨F, m⟩ := p
    dsimp only at kk hle ⊢
    refine Ev.to 999 rfl ?_
    refine Ev.ff (nI_ng (n := 20) hj (by omega)) ?_
    refine Ev.to 999 rfl ?_
    refine Ev.callS (rest := []) rfl rfl (e_isIn _ _ _) ?_
    refine Ev.to 999 rfl ?_
    refine Ev.on (fun h => ?_) (fun h => ?_)
    · rw [if_neg (fun q => by rw [h] at q; cases q.1)] at kk
      exact Ev.to 7 (L1 := [_, _, _]) rfl kk
    · refine Ev.to 999 rfl ?_
      refine Ev.if_ (fun h2 => ?_) (fun h2 => ?_)
      · have h3 : 14 ≤ m := (nI_leI (by omega) (by omega)).mp h2
        rw [if_neg (fun q => absurd q.2 (by omega))] at kk
        exact Ev.to 7 (L1 := [_, _, _]) rfl kk
      · have h3 : m < 14 := by
          rcases Nat.lt_or_ge m 14 with q | q
          · exact q
          · exact absurd ((nI_leI (by omega) (by omega)).mpr q) h2
        rw [if_pos ⟨h, h3⟩] at kk
        dsimp only at kk
        have e : (cw n c tb tn tl se on dd ch ro ot ow tr tu (upd F m (nI j)) (m + 1) cc br bw) = List.set (cw n c tb tn tl se on dd ch ro ot ow tr tu (upd F m (nI j)) (m) cc br bw) 4 (.inr (0, [.inr 12, .inr 13, .inr 14, .inr 15, .inl (nI m + 1), .inl cc, .inl br, .inl bw])) := by rw [← nI_succ]; rfl
        rw [e] at kk
        refine Ev.to 999 rfl ?_
        refine Ev.ast rfl rfl h3 (by decide) ?_
        exact Ev.to 7 (L1 := [_, _, _]) rfl kk
  · refine Ev.to 999 (pc1 := 59) rfl ?_
    exact Ev.vret rfl rfl rfl
theorem inw_nat {q m : Nat} (h : q ≤ m) (hm : m < 2 ^ 31) : inw (nI q) 0 (nI m) = true := decide_eq_true ⟨nI_pos' (by omega), nI_le h hm⟩
theorem e_addOwn {n : Nat} {c : Int32} {tb tn : Nat → Int32} {tl : Nat} {se on : Nat → Int32} {dd : Int32} {ch ro ot ow tr tu ld : Nat → Int32} {lc : Nat} {cc br bw : Int32} {q : Nat} (hq : q < 20) (x : Int32) : Cl m_X0_addOwn [.inr 4, .inl (nI q), .inl x] (cw n c tb tn tl se on dd ch ro ot ow tr tu ld lc cc br bw) none (cw n c tb tn tl se on dd ch ro ot (upd ow q x) tr tu ld lc cc br bw) := by
  refine Ev.to 999 rfl ?_
  refine Ev.callS (rest := []) rfl rfl (e_isWithin _ _ _ _) ?_
  refine Ev.to 999 rfl ?_
  refine Ev.ff (by rw [bz_t (show inw (nI q) 0 19 = true from inw_nat (m := 19) (by omega) (by omega))]; decide) ?_
  refine Ev.to 999 rfl ?_
  refine Ev.ast rfl rfl hq (by decide) ?_
  exact Ev.vret rfl rfl rfl
theorem imin_nat {a b : Nat} (ha : a < 2 ^ 31) (hb : b < 2 ^ 31) : imin (nI a) (nI b) = nI (min a b) := by
  unfold imin
  by_cases h : nI b < nI a
  · rw [if_pos h]; rw [nI_ltI hb ha] at h; rw [Nat.min_eq_right (by omega)]
  · rw [if_neg h]; rw [nI_ltI hb ha] at h; rw [Nat.min_eq_left (by omega)]
theorem imax_nat {a b : Nat} (ha : a < 2 ^ 31) (hb : b < 2 ^ 31) : imax (nI a) (nI b) = nI (max a b) := by
  unfold imax
  by_cases h : nI a < nI b
  · rw [if_pos h]; rw [nI_ltI ha hb] at h; rw [Nat.max_eq_right (by omega)]
  · rw [if_neg h]; rw [nI_ltI ha hb] at h; rw [Nat.max_eq_left (by omega)]
def g_l1 (tr : Nat → Int32) (a b : Nat) (x : Int32) : Nat → Int32 := if max a b = min a b + 1 then upd tr (min a b) x else tr
def g_l2 (tu : Nat → Int32) (a b : Nat) (x : Int32) : Nat → Int32 := if max a b = min a b + 1 then tu else upd tu (min a b) x
theorem e_addLink {n : Nat} {c : Int32} {tb tn : Nat → Int32} {tl : Nat} {se on : Nat → Int32} {dd : Int32} {ch ro ot ow tr tu ld : Nat → Int32} {lc : Nat} {cc br bw : Int32} {a b : Nat} (ha : a < 20) (hb : b < 20) (x : Int32) : Cl m_X0_addLink [.inr 4, .inl (nI a), .inl (nI b), .inl x] (cw n c tb tn tl se on dd ch ro ot ow tr tu ld lc cc br bw) none (cw n c tb tn tl se on dd ch ro ot ow (g_l1 tr a b x) (g_l2 tu a b x) ld lc cc br bw) := by
  have h20 : min a b < 20 := by omega
  refine Ev.to 999 rfl ?_
  refine Ev.callS (rest := []) rfl rfl (j_min _ _ _) ?_
  rw [imin_nat (by omega) (by omega)]
  rw [g_l1, g_l2]
  generalize min a b = q at h20 ⊢
  refine Ev.to 999 (L1 := [_, _, _, _, _]) rfl ?_
  refine Ev.callS (rest := []) rfl rfl (e_isWithin _ _ _ _) ?_
  refine Ev.to 999 rfl ?_
  refine Ev.ff (by rw [bz_t (show inw (nI q) 0 19 = true from inw_nat (m := 19) (by omega) (by omega))]; decide) ?_
  refine Ev.to 999 rfl ?_
  refine Ev.callS (rest := []) rfl rfl (j_max _ _ _) ?_
  rw [imax_nat (by omega) (by omega)]
  have hm : max a b < 20 := by omega
  generalize max a b = m at hm ⊢
  refine Ev.to 999 rfl ?_
  refine Ev.if_ (fun h => ?_) (fun h => ?_)
  · have h2 : m = q + 1 := by
      have h3 : nI m = nI q + 1 := h
      rw [nI_1, nI_eq (by omega) (by omega)] at h3; exact h3
    rw [if_pos h2, if_pos h2]
    refine Ev.to 999 rfl ?_
    refine Ev.ast rfl rfl h20 (by decide) ?_
    refine Ev.to 999 rfl ?_
    exact Ev.vret rfl rfl rfl
  · have h2 : ¬ m = q + 1 := fun e => h (by rw [e]; exact nI_succ q)
    rw [if_neg h2, if_neg h2]
    refine Ev.to 999 rfl ?_
    refine Ev.ast rfl rfl h20 (by decide) ?_
    exact Ev.vret rfl rfl rfl
/-! what a cell gains -/
def g_k4 (tu : Nat → Int32) (q : Nat) (s a : Int32) : Int32 := if 5 ≤ q ∧ bb s (q - 5) = true then a + tu (q - 5) else a
def g_k3 (tr : Nat → Int32) (q : Nat) (s a : Int32) : Int32 := if 1 ≤ q ∧ bb s (q - 1) = true then a + tr (q - 1) else a
def g_k2 (tu : Nat → Int32) (q : Nat) (s a : Int32) : Int32 := if bb s (q + 5) = true then a + tu q else a
def g_k1 (tr : Nat → Int32) (q : Nat) (s a : Int32) : Int32 := if bb s (q + 1) = true then a + tr q else a
def g_kg (ow tr tu : Nat → Int32) (q : Nat) (s : Int32) : Int32 := g_k4 tu q s (g_k3 tr q s (g_k2 tu q s (g_k1 tr q s (ow q))))
theorem e_k4 {n : Nat} {c : Int32} {tb tn : Nat → Int32} {tl : Nat} {se on : Nat → Int32} {dd : Int32} {ch ro ot ow tr tu ld : Nat → Int32} {lc : Nat} {cc br bw : Int32} {q : Nat} (hq : q < 20) (s a : Int32) : Ev m_X0_gainOf 71 [some (.inr 4), some (.inl (nI q)), some (.inl s), some (.inl a)] [] (cw n c tb tn tl se on dd ch ro ot ow tr tu ld lc cc br bw) (some (.inl (g_k4 tu q s a)), (cw n c tb tn tl se on dd ch ro ot ow tr tu ld lc cc br bw)) := by
  rw [g_k4]
  refine Ev.to 999 rfl ?_
  refine Ev.if_ (fun h => ?_) (fun h => ?_)
  · have h2 : q < 5 := (nI_ltI (b := 5) (by omega) (by omega)).mp h
    rw [if_neg (fun z => absurd z.1 (by omega))]
    refine Ev.to 999 rfl ?_
    exact Ev.iret rfl rfl rfl rfl
  · have h2 : ¬ q < 5 := fun z => h ((nI_ltI (b := 5) (by omega) (by omega)).mpr z)
    obtain ⟨r, rfl⟩ : ∃ r, q = r + 5 := ⟨q - 5, by omega⟩
    have e5 : nI (r + 5) - 5 = nI r := by rw [show (5 : Int32) = nI 5 from rfl, pk_sub (by omega)]; rfl
    rw [show r + 5 - 5 = r by omega]
    refine Ev.to 999 rfl ?_
    refine Ev.callS (rest := []) rfl rfl (Cl.eq (e_isIn s r _) (by rw [← e5]; rfl) rfl) ?_
    refine Ev.to 999 rfl ?_
    refine Ev.on (fun hb => ?_) (fun hb => ?_)
    · rw [if_neg (fun z => by rw [hb] at z; cases z.2)]
      refine Ev.to 999 rfl ?_
      exact Ev.iret rfl rfl rfl rfl
    · rw [if_pos ⟨by omega, hb⟩]
      refine Ev.to 999 rfl ?_
      refine Ev.aldE r e5 rfl rfl (by omega) (by decide) ?_
      refine Ev.to 999 (L1 := [_, _, _, _]) rfl ?_
      exact Ev.iret rfl rfl rfl rfl
theorem e_k3 {n : Nat} {c : Int32} {tb tn : Nat → Int32} {tl : Nat} {se on : Nat → Int32} {dd : Int32} {ch ro ot ow tr tu ld : Nat → Int32} {lc : Nat} {cc br bw : Int32} {q : Nat} (hq : q < 20) (s a : Int32) : Ev m_X0_gainOf 45 [some (.inr 4), some (.inl (nI q)), some (.inl s), some (.inl a)] [] (cw n c tb tn tl se on dd ch ro ot ow tr tu ld lc cc br bw) (some (.inl (g_k4 tu q s (g_k3 tr q s a))), (cw n c tb tn tl se on dd ch ro ot ow tr tu ld lc cc br bw)) := by
  refine Ev.to 999 rfl ?_
  refine Ev.if_ (fun h => ?_) (fun h => ?_)
  · have h2 : q < 1 := (nI_ltI (b := 1) (by omega) (by omega)).mp h
    rw [g_k3, if_neg (fun z => absurd z.1 (by omega))]
    exact e_k4 hq s a
  · have h2 : ¬ q < 1 := fun z => h ((nI_ltI (b := 1) (by omega) (by omega)).mpr z)
    obtain ⟨r, rfl⟩ : ∃ r, q = r + 1 := ⟨q - 1, by omega⟩
    have e5 : nI (r + 1) - 1 = nI r := nI_pred r
    rw [g_k3, show r + 1 - 1 = r by omega]
    refine Ev.to 999 rfl ?_
    refine Ev.callS (rest := []) rfl rfl (Cl.eq (e_isIn s r _) (by rw [← e5]; rfl) rfl) ?_
    refine Ev.to 999 rfl ?_
    refine Ev.on (fun hb => ?_) (fun hb => ?_)
    · rw [if_neg (fun z => by rw [hb] at z; cases z.2)]
      exact e_k4 hq s a
    · rw [if_pos ⟨by omega, hb⟩]
      refine Ev.to 999 rfl ?_
      refine Ev.aldE r e5 rfl rfl (by omega) (by decide) ?_
      refine Ev.to 71 (L1 := [_, _, _, _]) (st1 := []) rfl ?_
      exact e_k4 hq s _
theorem e_k2 {n : Nat} {c : Int32} {tb tn : Nat → Int32} {tl : Nat} {se on : Nat → Int32} {dd : Int32} {ch ro ot ow tr tu ld : Nat → Int32} {lc : Nat} {cc br bw : Int32} {q : Nat} (hq : q < 20) (s a : Int32) : Ev m_X0_gainOf 26 [some (.inr 4), some (.inl (nI q)), some (.inl s), some (.inl a)] [] (cw n c tb tn tl se on dd ch ro ot ow tr tu ld lc cc br bw) (some (.inl (g_k4 tu q s (g_k3 tr q s (g_k2 tu q s a)))), (cw n c tb tn tl se on dd ch ro ot ow tr tu ld lc cc br bw)) := by
  have e5 : nI q + 5 = nI (q + 5) := by rw [show (5 : Int32) = nI 5 from rfl, nI_add]
  refine Ev.to 999 rfl ?_
  refine Ev.callS (rest := []) rfl rfl (Cl.eq (e_isIn s (q + 5) _) (by rw [← e5]; rfl) rfl) ?_
  refine Ev.to 999 rfl ?_
  refine Ev.on (fun hb => ?_) (fun hb => ?_)
  · rw [g_k2, if_neg (by rw [hb]; decide)]
    exact e_k3 hq s a
  · rw [g_k2, if_pos hb]
    refine Ev.to 999 rfl ?_
    refine Ev.ald rfl rfl hq (by decide) ?_
    refine Ev.to 45 (L1 := [_, _, _, _]) (st1 := []) rfl ?_
    exact e_k3 hq s _
theorem e_kgain {n : Nat} {c : Int32} {tb tn : Nat → Int32} {tl : Nat} {se on : Nat → Int32} {dd : Int32} {ch ro ot ow tr tu ld : Nat → Int32} {lc : Nat} {cc br bw : Int32} {q : Nat} (hq : q < 20) (s : Int32) : Cl m_X0_gainOf [.inr 4, .inl (nI q), .inl s] (cw n c tb tn tl se on dd ch ro ot ow tr tu ld lc cc br bw) (some (.inl (g_kg ow tr tu q s))) (cw n c tb tn tl se on dd ch ro ot ow tr tu ld lc cc br bw) := by
  have e5 : nI q + 1 = nI (q + 1) := nI_1 q
  rw [g_kg]
  refine Ev.to 999 rfl ?_
  refine Ev.ald rfl rfl hq (by decide) ?_
  refine Ev.to 999 (L1 := [_, _, _, _]) rfl ?_
  refine Ev.callS (rest := []) rfl rfl (Cl.eq (e_isIn s (q + 1) _) (by rw [← e5]; rfl) rfl) ?_
  refine Ev.to 999 rfl ?_
  refine Ev.on (fun hb => ?_) (fun hb => ?_)
  · rw [g_k1, if_neg (by rw [hb]; decide)]
    exact e_k2 hq s _
  · rw [g_k1, if_pos hb]
    refine Ev.to 999 rfl ?_
    refine Ev.ald rfl rfl hq (by decide) ?_
    refine Ev.to 26 (L1 := [_, _, _, _]) (st1 := []) rfl ?_
    exact e_k2 hq s _
def g_un (br bw s : Int32) : Int32 := ibc ((s ^^^ (s >>> ((1 : Int32) &&& 31))) &&& br) + ibc ((s ^^^ (s >>> ((5 : Int32) &&& 31))) &&& bw)
theorem e_unlike {n : Nat} {c : Int32} {tb tn : Nat → Int32} {tl : Nat} {se on : Nat → Int32} {dd : Int32} {ch ro ot ow tr tu ld : Nat → Int32} {lc : Nat} {cc br bw : Int32} (s : Int32) : Cl m_X0_unlikeNeighbours [.inr 4, .inl s] (cw n c tb tn tl se on dd ch ro ot ow tr tu ld lc cc br bw) (some (.inl (g_un br bw s))) (cw n c tb tn tl se on dd ch ro ot ow tr tu ld lc cc br bw) := by
  refine Ev.to 999 (L1 := [_, _, _, _]) rfl ?_
  refine Ev.callS rfl rfl (j_bc _ _) ?_
  refine Ev.to 999 rfl ?_
  refine Ev.callS rfl rfl (j_bc _ _) ?_
  refine Ev.to 999 rfl ?_
  exact Ev.iret rfl rfl rfl rfl
/-! leastHold -/
theorem pw_n14 {n : Nat} (h : n ≤ 14) : (1 : Int32) <<< (nI n &&& 31) = nI (2 ^ n) := by
  have : ∀ n, n < 15 → (1 : Int32) <<< (nI n &&& 31) = nI (2 ^ n) := by decide +kernel
  exact this n (by omega)
def g_hg (ow tr tu : Nat → Int32) (q : Nat) (s e : Int32) : Int32 := e + (if bb s q = true then -(g_kg ow tr tu q s) else g_kg ow tr tu q s)
def g_hh (best : Int32) (u e h : Int32) : Int32 := if 0 < u ∧ e + h * u ≤ best then (best - e) / u + 1 else h
def g_h (ow tr tu : Nat → Int32) (cl : Nat → Nat) (br bw best : Int32) (t : Nat) (p : Int32 × Int32 × Int32) : Int32 × Int32 × Int32 := (g_hh best (g_un br bw (p.2.1 ^^^ ((1 : Int32) <<< (nI (cl (lowb (t + 1))) &&& 31)))) (g_hg ow tr tu (cl (lowb (t + 1))) p.2.1 p.2.2) p.1, p.2.1 ^^^ ((1 : Int32) <<< (nI (cl (lowb (t + 1))) &&& 31)), g_hg ow tr tu (cl (lowb (t + 1))) p.2.1 p.2.2)
theorem e_leastHold {n : Nat} {c : Int32} {tb tn : Nat → Int32} {tl : Nat} {se on : Nat → Int32} {dd : Int32} {ch ro ot ow tr tu ld : Nat → Int32} {lc : Nat} {cc br bw : Int32} (hlc : lc ≤ 14) {cl : Nat → Nat} (hcl : ∀ j, j < lc → ld j = nI (cl j) ∧ cl j < 20) (best : Int32) : Cl m_X0_leastHold [.inr 4, .inl best] (cw n c tb tn tl se on dd ch ro ot ow tr tu ld lc cc br bw) (some (.inl (fd (g_h ow tr tu cl br bw best) (0, 0, cc) (2 ^ lc - 1)).1)) (cw n c tb tn tl se on dd ch ro ot ow tr tu ld lc cc br bw) := by
  have hp2 : 1 ≤ 2 ^ lc := Nat.two_pow_pos lc
  have hp1 : 2 ^ lc ≤ 16384 := Nat.le_trans (Nat.pow_le_pow_right (by omega) hlc) (by decide)
  refine Ev.to 13 (L1 := [_, _, _, _, _, _, _, _, _]) (st1 := []) rfl ?_
  refine Ev.loop (fun t => [some (.inr 4), some (.inl best), some (.inl (fd (g_h ow tr tu cl br bw best) (0, 0, cc) t).1), some (.inl (fd (g_h ow tr tu cl br bw best) (0, 0, cc) t).2.1), some (.inl (fd (g_h ow tr tu cl br bw best) (0, 0, cc) t).2.2), some (.inl (nI (t + 1))), none, none, none]) (fun _ => (cw n c tb tn tl se on dd ch ro ot ow tr tu ld lc cc br bw)) (fun _ => True) 0 (2 ^ lc - 1) (Nat.zero_le _) trivial (fun t _ ht _ kk => ?_) (fun _ => ?_)
  · have kk := kk trivial
    rw [nI_succ (t + 1), fd, g_h] at kk
    generalize fd (g_h ow tr tu cl br bw best) (0, 0, cc) t = p at kk ⊢
    obtain ⟨h, s, e⟩ := p
    dsimp only at kk ⊢
    refine Ev.to 999 rfl ?_
    refine Ev.ff (by show ¬ (1 : Int32) <<< (nI lc &&& 31) ≤ nI (t + 1); rw [pw_n14 hlc]; exact nI_ng (by omega) (by omega)) ?_
    refine Ev.to 999 rfl ?_
    refine Ev.callS rfl rfl (j_tz _ _) ?_
    have e1 : itz (nI (t + 1)) = nI (lowb (t + 1)) := itz_low (by omega) (by omega)
    have e2 : lowb (t + 1) < lc := lowb_lt (by omega) (by omega) (by omega)
    obtain ⟨c1, c2⟩ := hcl _ e2
    refine Ev.aldE (lowb (t + 1)) e1 rfl rfl (by omega) (by decide) ?_
    rw [c1]
    generalize cl (lowb (t + 1)) = q at c2 kk ⊢
    refine Ev.to 999 (L1 := [_, _, _, _, _, _, _, _, _]) rfl ?_
    refine Ev.callV (rest := []) rfl rfl (e_kgain c2 _) ?_
    refine Ev.to 999 (L1 := [_, _, _, _, _, _, _, _, _]) rfl ?_
    refine Ev.callS (rest := [_]) rfl rfl (e_isIn _ _ _) ?_
    refine Ev.to 999 rfl ?_
    have J : ∀ g, g_hg ow tr tu q s e = e + g → Ev m_X0_leastHold 64 [some (.inr 4), some (.inl best), some (.inl h), some (.inl s), some (.inl e), some (.inl (nI (t + 1))), some (.inl (nI q)), some (.inl (g_kg ow tr tu q s)), none] [.inl g, .inl e] (cw n c tb tn tl se on dd ch ro ot ow tr tu ld lc cc br bw) (some (.inl (fd (g_h ow tr tu cl br bw best) (0, 0, cc) (2 ^ lc - 1)).1), (cw n c tb tn tl se on dd ch ro ot ow tr tu ld lc cc br bw)) := by
      intro g hg
      rw [hg] at kk
      refine Ev.to 999 (L1 := [_, _, _, _, _, _, _, _, _]) rfl ?_
      refine Ev.callV (rest := []) rfl rfl (e_unlike _) ?_
      refine Ev.to 81 (L1 := [_, _, _, _, _, _, _, _, _]) (st1 := []) rfl ?_
      show Ev _ _ [_, _, _, some (.inl (s ^^^ ((1 : Int32) <<< (nI q &&& 31)))), some (.inl (e + g)), _, _, _, some (.inl (g_un br bw (s ^^^ ((1 : Int32) <<< (nI q &&& 31)))))] _ _ _
      generalize g_un br bw (s ^^^ ((1 : Int32) <<< (nI q &&& 31))) = u at kk ⊢
      generalize s ^^^ ((1 : Int32) <<< (nI q &&& 31)) = s2 at kk ⊢
      generalize e + g = e2 at kk ⊢
      refine Ev.to 999 rfl ?_
      refine Ev.if_ (fun h1 => ?_) (fun h1 => ?_)
      · rw [g_hh, if_neg (fun z => i32_nlt.mpr h1 z.1)] at kk
        exact Ev.to 13 (L1 := [_, _, _, _, _, _, _, _, _]) rfl (Ev.fg kk (le_cc (le_cc (le_cc (le_cc (le_cc (le_cc (le_nc (le_nc (le_nc le_nil))))))))))
      · have h1 : 0 < u := i32_nle.mp h1
        refine Ev.to 999 rfl ?_
        refine Ev.if_ (fun h2 => ?_) (fun h2 => ?_)
        · rw [g_hh, if_neg (fun z => i32_nlt.mpr z.2 h2)] at kk
          exact Ev.to 13 (L1 := [_, _, _, _, _, _, _, _, _]) rfl (Ev.fg kk (le_cc (le_cc (le_cc (le_cc (le_cc (le_cc (le_nc (le_nc (le_nc le_nil))))))))))
        · rw [g_hh, if_pos ⟨h1, i32_nlt.mp h2⟩] at kk
          refine Ev.to 999 rfl ?_
          refine Ev.dv rfl (fun z => by rw [z] at h1; exact absurd h1 (by decide)) ?_
          exact Ev.to 13 (L1 := [_, _, _, _, _, _, _, _, _]) rfl (Ev.fg kk (le_cc (le_cc (le_cc (le_cc (le_cc (le_cc (le_nc (le_nc (le_nc le_nil))))))))))
    refine Ev.on (fun hb => ?_) (fun hb => ?_)
    · exact Ev.to 64 (L1 := [_, _, _, _, _, _, _, _, _]) rfl (J _ (by rw [g_hg, if_neg (by rw [hb]; decide)]))
    · exact Ev.to 64 (L1 := [_, _, _, _, _, _, _, _, _]) rfl (J _ (by rw [g_hg, if_pos hb]))
  · refine Ev.to 999 rfl ?_
    refine Ev.tt (by show (1 : Int32) <<< (nI lc &&& 31) ≤ nI (2 ^ lc - 1 + 1); rw [pw_n14 hlc, show 2 ^ lc - 1 + 1 = 2 ^ lc by omega]; exact nI_gg (by omega)) ?_
    refine Ev.to 999 rfl ?_
    exact Ev.iret rfl rfl rfl rfl
/-! layOut -/
def g_oi (tb : Nat → Int32) (lf lt : Nat → Nat → Nat) (i d : Nat) (p : (Nat → Int32) × (Nat → Int32)) : (Nat → Int32) × (Nat → Int32) := if tb (8 * i + (i + 1 + d)) = 0 then p else (g_l1 p.1 (lf i (i + 1 + d)) (lt i (i + 1 + d)) (tb (8 * i + (i + 1 + d))), g_l2 p.2 (lf i (i + 1 + d)) (lt i (i + 1 + d)) (tb (8 * i + (i + 1 + d))))
def g_oo (n : Nat) (tb : Nat → Int32) (l0 : Nat → Nat) (lf lt : Nat → Nat → Nat) (i : Nat) (p : (Nat → Int32) × (Nat → Int32) × (Nat → Int32)) : (Nat → Int32) × (Nat → Int32) × (Nat → Int32) := (upd p.1 (l0 i) (tb (8 * i + i)), fd (g_oi tb lf lt i) p.2 (n - (i + 1)))
theorem e_layOut {n : Nat} {c : Int32} {tb tn : Nat → Int32} {tl : Nat} {se on : Nat → Int32} {dd : Int32} {ch ro ot ow tr tu ld : Nat → Int32} {lc : Nat} {cc br bw : Int32} (hn : n ≤ 8) {l0 : Nat → Nat} {lf lt : Nat → Nat → Nat} (h0 : ∀ i, i < n → itz (ch i) = nI (l0 i) ∧ l0 i < 20) (h1 : ∀ i j, i < j → j < n → ¬ tb (8 * i + j) = 0 → itz (ch i &&& g_nb (ch j)) = nI (lf i j) ∧ lf i j < 20 ∧ itz (ch j &&& g_nb ((1 : Int32) <<< (nI (lf i j) &&& 31))) = nI (lt i j) ∧ lt i j < 20) : Cl m_X0_layOut [.inr 4, .inr 1, .inr 3] (cw n c tb tn tl se on dd ch ro ot ow tr tu ld lc cc br bw) none (cw n c tb tn tl se on dd ch ro ot ((fd (g_oo n tb l0 lf lt) (fd zf ow 20, fd zf tr 20, fd zf tu 20) n).1) ((fd (g_oo n tb l0 lf lt) (fd zf ow 20, fd zf tr 20, fd zf tu 20) n).2.1) ((fd (g_oo n tb l0 lf lt) (fd zf ow 20, fd zf tr 20, fd zf tu 20) n).2.2) ((fd (g_lc (fd (g_all ch) 0 8)) (ld, 0) 20).1) ((fd (g_lc (fd (g_all ch) 0 8)) (ld, 0) 20).2) (c) (fd (g_bri ch) 0 8) (fd (g_bbe ch) 0 8)) := by
  refine Ev.to 999 rfl ?_
  refine Ev.callV (rest := []) rfl rfl e_clear ?_
  generalize fd zf ow 20 = ow1
  generalize fd zf tr 20 = tr1
  generalize fd zf tu 20 = tu1
  refine Ev.to 999 rfl ?_
  refine Ev.callV rfl rfl e_constant ?_
  refine Ev.to 999 (w1 := (cw n c tb tn tl se on dd ch ro ot (ow1) (tr1) (tu1) ld lc (c) br bw)) rfl ?_
  refine Ev.callV rfl rfl e_right ?_
  refine Ev.to 999 (w1 := (cw n c tb tn tl se on dd ch ro ot (ow1) (tr1) (tu1) ld lc (c) (fd (g_bri ch) 0 8) bw)) rfl ?_
  refine Ev.callV rfl rfl e_below ?_
  refine Ev.to 999 (w1 := (cw n c tb tn tl se on dd ch ro ot (ow1) (tr1) (tu1) ld lc (c) (fd (g_bri ch) 0 8) (fd (g_bbe ch) 0 8))) rfl ?_
  refine Ev.callV rfl rfl e_cells ?_
  refine Ev.callV (rest := []) rfl rfl (e_listCells _) ?_
  generalize fd (g_lc (fd (g_all ch) 0 8)) (ld, 0) 20 = pl
  generalize fd (g_bri ch) 0 8 = br1
  generalize fd (g_bbe ch) 0 8 = bw1
  obtain ⟨ld1, lc1⟩ := pl
  dsimp only
  refine Ev.to 38 (L1 := [_, _, _, _, _, _]) (st1 := []) rfl ?_
  refine Ev.loop (fun i => [some (.inr 4), some (.inr 1), some (.inr 3), some (.inl (nI i)), none, none]) (fun i => (cw n c tb tn tl se on dd ch ro ot ((fd (g_oo n tb l0 lf lt) (ow1, tr1, tu1) i).1) ((fd (g_oo n tb l0 lf lt) (ow1, tr1, tu1) i).2.1) ((fd (g_oo n tb l0 lf lt) (ow1, tr1, tu1) i).2.2) (ld1) (lc1) (c) (br1) (bw1))) (fun _ => True) 0 n (Nat.zero_le n) trivial (fun i _ hi _ kk => ?_) (fun _ => ?_)
  · have kk := kk trivial
    rw [nI_succ, fd, g_oo] at kk
    generalize fd (g_oo n tb l0 lf lt) (ow1, tr1, tu1) i = p at kk ⊢
    obtain ⟨o, r, u⟩ := p
    dsimp only at kk ⊢
    obtain ⟨c1, c2⟩ := h0 i hi
    refine Ev.to 999 rfl ?_
    refine Ev.callV rfl rfl e_size ?_
    refine Ev.to 999 rfl ?_
    refine Ev.ff (nI_ng hi (by omega)) ?_
    refine Ev.to 999 rfl ?_
    refine Ev.callV rfl rfl (Cl.eq (e_leastCellOf (by omega)) rfl (by rw [c1])) ?_
    refine Ev.to 999 rfl ?_
    refine Ev.callV rfl rfl (e_between (by omega) (by omega)) ?_
    refine Ev.callV (rest := []) rfl rfl (e_addOwn c2 _) ?_
    generalize upd o (l0 i) (tb (8 * i + i)) = o1 at kk ⊢
    refine Ev.to 66 (L1 := [_, _, _, _, some (.inl (nI i + 1)), _]) (st1 := []) rfl ?_
    rw [show nI i + 1 = nI (i + 1 + 0) from nI_1 i]
    refine Ev.loop (fun d => [some (.inr 4), some (.inr 1), some (.inr 3), some (.inl (nI i)), some (.inl (nI (i + 1 + d))), none]) (fun d => (cw n c tb tn tl se on dd ch ro ot (o1) ((fd (g_oi tb lf lt i) (r, u) d).1) ((fd (g_oi tb lf lt i) (r, u) d).2) (ld1) (lc1) (c) (br1) (bw1))) (fun _ => True) 0 (n - (i + 1)) (Nat.zero_le _) trivial (fun d _ hd _ k2 => ?_) (fun _ => ?_)
    · have k2 := k2 trivial
      rw [show i + 1 + (d + 1) = (i + 1 + d) + 1 by omega, nI_succ (i + 1 + d), fd, g_oi] at k2
      generalize fd (g_oi tb lf lt i) (r, u) d = p2 at k2 ⊢
      obtain ⟨r2, u2⟩ := p2
      dsimp only at k2 ⊢
      have hj : i + 1 + d < n := by omega
      have hij : i < i + 1 + d := by omega
      generalize i + 1 + d = j at hj hij k2 ⊢
      refine Ev.to 999 rfl ?_
      refine Ev.callV rfl rfl e_size ?_
      refine Ev.to 999 rfl ?_
      refine Ev.ff (nI_ng hj (by omega)) ?_
      refine Ev.to 999 rfl ?_
      refine Ev.callV (rest := []) rfl rfl (e_between (by omega) (by omega)) ?_
      refine Ev.to 999 rfl ?_
      refine Ev.if_ (fun h => ?_) (fun h => ?_)
      · rw [if_pos h] at k2
        exact Ev.to 66 (L1 := [_, _, _, _, _, _]) rfl k2
      · rw [if_neg h] at k2
        dsimp only at k2
        obtain ⟨d1, d2, d3, d4⟩ := h1 i j hij hj h
        refine Ev.to 999 rfl ?_
        refine Ev.callV rfl rfl (Cl.eq (e_linkFrom (by omega) (by omega)) rfl (by rw [d1])) ?_
        refine Ev.to 999 (L1 := [_, _, _, _, _, _]) rfl ?_
        refine Ev.callV rfl rfl (Cl.eq (e_linkTo _ (by omega)) rfl (by rw [d3])) ?_
        refine Ev.to 999 rfl ?_
        refine Ev.callV rfl rfl (e_between (by omega) (by omega)) ?_
        refine Ev.callV (rest := []) rfl rfl (e_addLink d2 d4 _) ?_
        exact Ev.to 66 (L1 := [_, _, _, _, _, _]) rfl (Ev.fg k2 (le_cc (le_cc (le_cc (le_cc (le_cc (le_nc le_nil)))))))
    · refine Ev.to 999 rfl ?_
      refine Ev.callV rfl rfl e_size ?_
      refine Ev.to 999 rfl ?_
      rw [show i + 1 + (n - (i + 1)) = n by omega]
      refine Ev.tt (nI_gg (by omega)) ?_
      exact Ev.to 38 (L1 := [_, _, _, _, _, _]) rfl (Ev.fg kk (le_cc (le_cc (le_cc (le_cc (le_nc (le_nc le_nil)))))))
  · refine Ev.to 999 rfl ?_
    refine Ev.callV rfl rfl e_size ?_
    refine Ev.to 999 rfl ?_
    refine Ev.tt (nI_gg (by omega)) ?_
    exact Ev.vret rfl rfl rfl
