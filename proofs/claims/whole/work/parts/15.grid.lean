/-! Grid -/
def anyB (p : Nat → Bool) (n : Nat) : Bool := (List.range n).any p
theorem anyB_t {p : Nat → Bool} {n i : Nat} (hi : i < n) (h : p i = true) : anyB p n = true := List.any_eq_true.mpr ⟨i, List.mem_range.mpr hi, h⟩
theorem anyB_f {p : Nat → Bool} {n : Nat} (h : ∀ i, i < n → p i = false) : anyB p n = false := by
  cases e : anyB p n with
  | false => rfl
  | true =>
    obtain ⟨i, h1, h2⟩ := List.any_eq_true.mp e
    rw [h i (List.mem_range.mp h1)] at h2; cases h2
theorem lt_s' {i : Nat} {p : Nat → Prop} (h : ∀ a, a < i → p a) (hi : p i) : ∀ a, a < i + 1 → p a := lt_s h hi
def g_nb (x : Int32) : Int32 := ((((x &&& (-33826)) >>> ((1 : Int32) &&& 31)) ||| ((x &&& (-541201)) <<< ((1 : Int32) &&& 31))) ||| (x >>> ((5 : Int32) &&& 31))) ||| ((x <<< ((5 : Int32) &&& 31)) &&& 1048575)
theorem e_nb (x : Int32) (w : ix_W) : Cl m_X1_neighboursOf [.inl x] w (some (.inl (g_nb x))) w := by
  refine Ev.to 999 rfl ?_
  exact Ev.iret rfl rfl rfl rfl
def g_hs (x : Int32) (_ : Nat) (r : Int32) : Int32 := r ||| (x &&& g_nb r)
def g_ht (x : Int32) : Bool := decide (fd (g_hs x) (x &&& (-x)) 20 = x)
theorem e_hangs (x : Int32) (w : ix_W) : Cl m_X1_hangsTogether [.inl x] w (some (.inl (bz (g_ht x)))) w := by
  refine Ev.to 999 rfl ?_
  refine Ev.callS (rest := []) rfl rfl (j_low _ _) ?_
  rw [g_ht]
  generalize x &&& (-x) = r0
  refine Ev.to 7 (L1 := [_, _, _]) (st1 := []) rfl ?_
  refine Ev.loop (fun i => [some (.inl x), some (.inl (fd (g_hs x) r0 i)), some (.inl (nI i))]) (fun _ => w) (fun _ => True) 0 20 (by omega) trivial (fun i _ hi _ kk => ?_) (fun _ => ?_)
  · have kk := kk trivial
    rw [nI_succ, fd, g_hs] at kk
    generalize fd (g_hs x) r0 i = r at kk ⊢
    refine Ev.to 999 rfl ?_
    refine Ev.ff (nI_ng (n := 20) hi (by omega)) ?_
    refine Ev.to 999 rfl ?_
    refine Ev.callS rfl rfl (e_nb _ _) ?_
    exact Ev.to 7 (L1 := [_, _, _]) rfl kk
  · generalize fd (g_hs x) r0 20 = r
    refine Ev.to 999 (pc1 := 28) rfl ?_
    refine Ev.to 999 rfl ?_
    refine Ev.if_ (fun h => ?_) (fun h => ?_)
    · refine Ev.to 999 rfl ?_
      exact Ev.zret rfl rfl (by rw [bz_t (decide_eq_true h)]) rfl (Or.inr rfl)
    · refine Ev.to 999 rfl ?_
      exact Ev.zret rfl rfl (by rw [bz_f (decide_eq_false h)]) rfl (Or.inl rfl)
theorem e_isDead {n : Nat} {c : Int32} {tb tn : Nat → Int32} {tl : Nat} {se on : Nat → Int32} {dd : Int32} {ch ro ot ow tr tu ld : Nat → Int32} {lc : Nat} {cc br bw : Int32} (q : Nat) : Cl m_X1_isDead [.inr 3, .inl (nI q)] (cw n c tb tn tl se on dd ch ro ot ow tr tu ld lc cc br bw) (some (.inl (bz (bb dd q)))) (cw n c tb tn tl se on dd ch ro ot ow tr tu ld lc cc br bw) := by
  refine Ev.to 999 rfl ?_
  refine Ev.callS rfl rfl (e_isIn _ _ _) ?_
  exact Ev.zret rfl rfl rfl rfl (bz_01 _)
def g_sd (dd : Int32) (q : Int32) (b : Int32) : Int32 := if b = 0 then dd &&& (((1 : Int32) <<< (q &&& 31)) ^^^ (-1)) else dd ||| ((1 : Int32) <<< (q &&& 31))
theorem e_setDead {n : Nat} {c : Int32} {tb tn : Nat → Int32} {tl : Nat} {se on : Nat → Int32} {dd : Int32} {ch ro ot ow tr tu ld : Nat → Int32} {lc : Nat} {cc br bw : Int32} (q b : Int32) : Cl m_X1_setDead [.inr 3, .inl q, .inl b] (cw n c tb tn tl se on dd ch ro ot ow tr tu ld lc cc br bw) none (cw n c tb tn tl se on (g_sd dd q b) ch ro ot ow tr tu ld lc cc br bw) := by
  refine Ev.to 999 rfl ?_
  refine Ev.if_ (fun h => ?_) (fun h => ?_)
  · rw [g_sd, if_pos h]
    refine Ev.to 999 (w1 := (cw n c tb tn tl se on (dd &&& (((1 : Int32) <<< (q &&& 31)) ^^^ (-1))) ch ro ot ow tr tu ld lc cc br bw)) rfl ?_
    exact Ev.vret rfl rfl rfl
  · rw [g_sd, if_neg h]
    refine Ev.to 999 (w1 := (cw n c tb tn tl se on (dd ||| ((1 : Int32) <<< (q &&& 31))) ch ro ot ow tr tu ld lc cc br bw)) rfl ?_
    exact Ev.vret rfl rfl rfl
theorem e_deadCells {n : Nat} {c : Int32} {tb tn : Nat → Int32} {tl : Nat} {se on : Nat → Int32} {dd : Int32} {ch ro ot ow tr tu ld : Nat → Int32} {lc : Nat} {cc br bw : Int32} : Cl m_X1_deadCells [.inr 3] (cw n c tb tn tl se on dd ch ro ot ow tr tu ld lc cc br bw) (some (.inl (ibc dd))) (cw n c tb tn tl se on dd ch ro ot ow tr tu ld lc cc br bw) := by
  refine Ev.to 999 rfl ?_
  refine Ev.callS rfl rfl (j_bc _ _) ?_
  exact Ev.iret rfl rfl rfl rfl
theorem e_setChain {n : Nat} {c : Int32} {tb tn : Nat → Int32} {tl : Nat} {se on : Nat → Int32} {dd : Int32} {ch ro ot ow tr tu ld : Nat → Int32} {lc : Nat} {cc br bw : Int32} {i : Nat} (hi : i < 8) (x : Int32) : Cl m_X1_setChain [.inr 3, .inl (nI i), .inl x] (cw n c tb tn tl se on dd ch ro ot ow tr tu ld lc cc br bw) none (cw n c tb tn tl se on dd (upd ch i x) ro ot ow tr tu ld lc cc br bw) := by
  refine Ev.to 999 rfl ?_
  refine Ev.ast rfl rfl hi (by decide) ?_
  exact Ev.vret rfl rfl rfl
theorem e_forgetChains {n : Nat} {c : Int32} {tb tn : Nat → Int32} {tl : Nat} {se on : Nat → Int32} {dd : Int32} {ch ro ot ow tr tu ld : Nat → Int32} {lc : Nat} {cc br bw : Int32} : Cl m_X1_forgetChains [.inr 3] (cw n c tb tn tl se on dd ch ro ot ow tr tu ld lc cc br bw) none (cw n c tb tn tl se on dd (fd (fun j f => upd f j 0) ch 8) ro ot ow tr tu ld lc cc br bw) := by
  refine Ev.to 2 (L1 := [_, _]) (st1 := []) rfl ?_
  refine Ev.loop (fun j => [some (.inr 3), some (.inl (nI j))]) (fun j => (cw n c tb tn tl se on dd (fd (fun j f => upd f j 0) ch j) ro ot ow tr tu ld lc cc br bw)) (fun _ => True) 0 8 (by omega) trivial (fun j _ hj _ kk => ?_) (fun _ => ?_)
  · have kk := kk trivial
    rw [nI_succ, fd] at kk
    refine Ev.to 999 rfl ?_
    refine Ev.ff (nI_ng (n := 8) hj (by omega)) ?_
    refine Ev.to 999 rfl ?_
    refine Ev.ast rfl rfl hj (by decide) ?_
    exact Ev.to 2 (L1 := [_, _]) rfl kk
  · refine Ev.to 999 (pc1 := 24) rfl ?_
    exact Ev.vret rfl rfl rfl
theorem e_leastCellOf {n : Nat} {c : Int32} {tb tn : Nat → Int32} {tl : Nat} {se on : Nat → Int32} {dd : Int32} {ch ro ot ow tr tu ld : Nat → Int32} {lc : Nat} {cc br bw : Int32} {i : Nat} (hi : i < 8) : Cl m_X1_leastCellOf [.inr 3, .inl (nI i)] (cw n c tb tn tl se on dd ch ro ot ow tr tu ld lc cc br bw) (some (.inl (itz (ch i)))) (cw n c tb tn tl se on dd ch ro ot ow tr tu ld lc cc br bw) := by
  refine Ev.to 999 rfl ?_
  refine Ev.ald rfl rfl hi (by decide) ?_
  refine Ev.callS rfl rfl (j_tz _ _) ?_
  exact Ev.iret rfl rfl rfl rfl
def g_all (ch : Nat → Int32) (i : Nat) (a : Int32) : Int32 := a ||| ch i
def g_tog (ch : Nat → Int32) (i : Nat) (a : Int32) : Int32 := a + ibc (ch i)
def g_bri (ch : Nat → Int32) (i : Nat) (a : Int32) : Int32 := a ||| ((ch i &&& (ch i >>> ((1 : Int32) &&& 31))) &&& (-541201))
def g_bbe (ch : Nat → Int32) (i : Nat) (a : Int32) : Int32 := a ||| (ch i &&& (ch i >>> ((5 : Int32) &&& 31)))
theorem e_cells {n : Nat} {c : Int32} {tb tn : Nat → Int32} {tl : Nat} {se on : Nat → Int32} {dd : Int32} {ch ro ot ow tr tu ld : Nat → Int32} {lc : Nat} {cc br bw : Int32} : Cl m_X1_cellsOfChains [.inr 3] (cw n c tb tn tl se on dd ch ro ot ow tr tu ld lc cc br bw) (some (.inl (fd (g_all ch) 0 8))) (cw n c tb tn tl se on dd ch ro ot ow tr tu ld lc cc br bw) := by
  refine Ev.to 4 (L1 := [_, _, _]) (st1 := []) rfl ?_
  refine Ev.loop (fun j => [some (.inr 3), some (.inl (fd (g_all ch) 0 j)), some (.inl (nI j))]) (fun _ => (cw n c tb tn tl se on dd ch ro ot ow tr tu ld lc cc br bw)) (fun _ => True) 0 8 (by omega) trivial (fun j _ hj _ kk => ?_) (fun _ => ?_)
  · have kk := kk trivial
    rw [nI_succ, fd, g_all] at kk
    generalize fd (g_all ch) 0 j = a at kk ⊢
    refine Ev.to 999 rfl ?_
    refine Ev.ff (nI_ng (n := 8) hj (by omega)) ?_
    refine Ev.to 999 rfl ?_
    refine Ev.ald rfl rfl hj (by decide) ?_
    exact Ev.to 4 (L1 := [_, _, _]) rfl kk
  · refine Ev.to 999 (pc1 := 28) rfl ?_
    refine Ev.to 999 rfl ?_
    exact Ev.iret rfl rfl rfl rfl
theorem e_lengths {n : Nat} {c : Int32} {tb tn : Nat → Int32} {tl : Nat} {se on : Nat → Int32} {dd : Int32} {ch ro ot ow tr tu ld : Nat → Int32} {lc : Nat} {cc br bw : Int32} : Cl m_X1_chainLengths [.inr 3] (cw n c tb tn tl se on dd ch ro ot ow tr tu ld lc cc br bw) (some (.inl (fd (g_tog ch) 0 8))) (cw n c tb tn tl se on dd ch ro ot ow tr tu ld lc cc br bw) := by
  refine Ev.to 4 (L1 := [_, _, _]) (st1 := []) rfl ?_
  refine Ev.loop (fun j => [some (.inr 3), some (.inl (fd (g_tog ch) 0 j)), some (.inl (nI j))]) (fun _ => (cw n c tb tn tl se on dd ch ro ot ow tr tu ld lc cc br bw)) (fun _ => True) 0 8 (by omega) trivial (fun j _ hj _ kk => ?_) (fun _ => ?_)
  · have kk := kk trivial
    rw [nI_succ, fd, g_tog] at kk
    generalize fd (g_tog ch) 0 j = a at kk ⊢
    refine Ev.to 999 rfl ?_
    refine Ev.ff (nI_ng (n := 8) hj (by omega)) ?_
    refine Ev.to 999 rfl ?_
    refine Ev.ald rfl rfl hj (by decide) ?_
    refine Ev.callS rfl rfl (j_bc _ _) ?_
    exact Ev.to 4 (L1 := [_, _, _]) rfl kk
  · refine Ev.to 999 (pc1 := 31) rfl ?_
    refine Ev.to 999 rfl ?_
    exact Ev.iret rfl rfl rfl rfl
theorem e_right {n : Nat} {c : Int32} {tb tn : Nat → Int32} {tl : Nat} {se on : Nat → Int32} {dd : Int32} {ch ro ot ow tr tu ld : Nat → Int32} {lc : Nat} {cc br bw : Int32} : Cl m_X1_boundToRight [.inr 3] (cw n c tb tn tl se on dd ch ro ot ow tr tu ld lc cc br bw) (some (.inl (fd (g_bri ch) 0 8))) (cw n c tb tn tl se on dd ch ro ot ow tr tu ld lc cc br bw) := by
  refine Ev.to 4 (L1 := [_, _, _]) (st1 := []) rfl ?_
  refine Ev.loop (fun j => [some (.inr 3), some (.inl (fd (g_bri ch) 0 j)), some (.inl (nI j))]) (fun _ => (cw n c tb tn tl se on dd ch ro ot ow tr tu ld lc cc br bw)) (fun _ => True) 0 8 (by omega) trivial (fun j _ hj _ kk => ?_) (fun _ => ?_)
  · have kk := kk trivial
    rw [nI_succ, fd, g_bri] at kk
    generalize fd (g_bri ch) 0 j = a at kk ⊢
    refine Ev.to 999 rfl ?_
    refine Ev.ff (nI_ng (n := 8) hj (by omega)) ?_
    refine Ev.to 999 rfl ?_
    refine Ev.ald rfl rfl hj (by decide) ?_
    refine Ev.to 999 rfl ?_
    refine Ev.ald rfl rfl hj (by decide) ?_
    exact Ev.to 4 (L1 := [_, _, _]) rfl kk
  · refine Ev.to 999 (pc1 := 40) rfl ?_
    refine Ev.to 999 rfl ?_
    exact Ev.iret rfl rfl rfl rfl
theorem e_below {n : Nat} {c : Int32} {tb tn : Nat → Int32} {tl : Nat} {se on : Nat → Int32} {dd : Int32} {ch ro ot ow tr tu ld : Nat → Int32} {lc : Nat} {cc br bw : Int32} : Cl m_X1_boundToBelow [.inr 3] (cw n c tb tn tl se on dd ch ro ot ow tr tu ld lc cc br bw) (some (.inl (fd (g_bbe ch) 0 8))) (cw n c tb tn tl se on dd ch ro ot ow tr tu ld lc cc br bw) := by
  refine Ev.to 4 (L1 := [_, _, _]) (st1 := []) rfl ?_
  refine Ev.loop (fun j => [some (.inr 3), some (.inl (fd (g_bbe ch) 0 j)), some (.inl (nI j))]) (fun _ => (cw n c tb tn tl se on dd ch ro ot ow tr tu ld lc cc br bw)) (fun _ => True) 0 8 (by omega) trivial (fun j _ hj _ kk => ?_) (fun _ => ?_)
  · have kk := kk trivial
    rw [nI_succ, fd, g_bbe] at kk
    generalize fd (g_bbe ch) 0 j = a at kk ⊢
    refine Ev.to 999 rfl ?_
    refine Ev.ff (nI_ng (n := 8) hj (by omega)) ?_
    refine Ev.to 999 rfl ?_
    refine Ev.ald rfl rfl hj (by decide) ?_
    refine Ev.to 999 rfl ?_
    refine Ev.ald rfl rfl hj (by decide) ?_
    exact Ev.to 4 (L1 := [_, _, _]) rfl kk
  · refine Ev.to 999 (pc1 := 37) rfl ?_
    refine Ev.to 999 rfl ?_
    exact Ev.iret rfl rfl rfl rfl
theorem e_linkFrom {n : Nat} {c : Int32} {tb tn : Nat → Int32} {tl : Nat} {se on : Nat → Int32} {dd : Int32} {ch ro ot ow tr tu ld : Nat → Int32} {lc : Nat} {cc br bw : Int32} {i j : Nat} (hi : i < 8) (hj : j < 8) : Cl m_X1_linkFrom [.inr 3, .inl (nI i), .inl (nI j)] (cw n c tb tn tl se on dd ch ro ot ow tr tu ld lc cc br bw) (some (.inl (itz (ch i &&& g_nb (ch j))))) (cw n c tb tn tl se on dd ch ro ot ow tr tu ld lc cc br bw) := by
  refine Ev.to 999 rfl ?_
  refine Ev.ald rfl rfl hi (by decide) ?_
  refine Ev.to 999 rfl ?_
  refine Ev.ald rfl rfl hj (by decide) ?_
  refine Ev.callS rfl rfl (e_nb _ _) ?_
  refine Ev.to 999 rfl ?_
  refine Ev.callS rfl rfl (j_tz _ _) ?_
  exact Ev.iret rfl rfl rfl rfl
theorem e_linkTo {n : Nat} {c : Int32} {tb tn : Nat → Int32} {tl : Nat} {se on : Nat → Int32} {dd : Int32} {ch ro ot ow tr tu ld : Nat → Int32} {lc : Nat} {cc br bw : Int32} (x : Int32) {j : Nat} (hj : j < 8) : Cl m_X1_linkTo [.inr 3, .inl x, .inl (nI j)] (cw n c tb tn tl se on dd ch ro ot ow tr tu ld lc cc br bw) (some (.inl (itz (ch j &&& g_nb ((1 : Int32) <<< (x &&& 31)))))) (cw n c tb tn tl se on dd ch ro ot ow tr tu ld lc cc br bw) := by
  refine Ev.to 999 rfl ?_
  refine Ev.ald rfl rfl hj (by decide) ?_
  refine Ev.to 999 rfl ?_
  refine Ev.callS rfl rfl (e_nb _ _) ?_
  refine Ev.to 999 rfl ?_
  refine Ev.callS rfl rfl (j_tz _ _) ?_
  exact Ev.iret rfl rfl rfl rfl
def g_mo (x y : Int32) (m : Nat) : Int32 := if ibc (x &&& y) = ibc x - ibc (x &&& y) then bz (bb y m) else if ibc (x &&& y) ≤ ibc x - ibc (x &&& y) then 0 else 1
theorem e_mostOf {n : Nat} {c : Int32} {tb tn : Nat → Int32} {tl : Nat} {se on : Nat → Int32} {dd : Int32} {ch ro ot ow tr tu ld : Nat → Int32} {lc : Nat} {cc br bw : Int32} {i m : Nat} (hi : i < 8) (hm : itz (ch i) = nI m) (y : Int32) : Cl m_X1_mostOf [.inr 3, .inl (nI i), .inl y] (cw n c tb tn tl se on dd ch ro ot ow tr tu ld lc cc br bw) (some (.inl (g_mo (ch i) y m))) (cw n c tb tn tl se on dd ch ro ot ow tr tu ld lc cc br bw) := by
  rw [g_mo]
  refine Ev.to 999 rfl ?_
  refine Ev.ald rfl rfl hi (by decide) ?_
  refine Ev.to 999 rfl ?_
  refine Ev.callS rfl rfl (j_bc _ _) ?_
  refine Ev.to 999 (L1 := [_, _, _, _, _]) rfl ?_
  refine Ev.ald rfl rfl hi (by decide) ?_
  refine Ev.callS rfl rfl (j_bc _ _) ?_
  refine Ev.to 25 (L1 := [_, _, _, _, _]) (st1 := []) rfl ?_
  show Ev _ 25 [_, _, _, some (.inl (ibc (ch i &&& y))), some (.inl (ibc (ch i) - ibc (ch i &&& y)))] _ _ _
  generalize ibc (ch i) - ibc (ch i &&& y) = z
  generalize ibc (ch i &&& y) = o
  refine Ev.to 999 rfl ?_
  refine Ev.if_ (fun h => ?_) (fun h => ?_)
  · refine Ev.to 999 rfl ?_
    refine Ev.callV rfl rfl (Cl.eq (e_leastCellOf hi) rfl (by rw [hm])) ?_
    refine Ev.callS (rest := []) rfl rfl (e_isIn _ m _) ?_
    refine Ev.to 999 rfl ?_
    refine Ev.on (fun hb => ?_) (fun hb => ?_)
    · refine Ev.to 999 rfl ?_
      exact Ev.iret rfl rfl (by rw [if_pos h, bz_f hb]) rfl
    · refine Ev.to 999 rfl ?_
      exact Ev.iret rfl rfl (by rw [if_pos h, bz_t hb]) rfl
  · refine Ev.to 999 rfl ?_
    refine Ev.if_ (fun h2 => ?_) (fun h2 => ?_)
    · refine Ev.to 999 rfl ?_
      exact Ev.iret rfl rfl (by rw [if_neg h, if_pos h2]) rfl
    · refine Ev.to 999 rfl ?_
      exact Ev.iret rfl rfl (by rw [if_neg h, if_neg h2]) rfl
def g_p1 (ch : Nat → Int32) (i : Nat) : Bool := decide (ch i = 0)
theorem e_isAnyEmpty {n : Nat} {c : Int32} {tb tn : Nat → Int32} {tl : Nat} {se on : Nat → Int32} {dd : Int32} {ch ro ot ow tr tu ld : Nat → Int32} {lc : Nat} {cc br bw : Int32} (hn : n ≤ 8) : Cl m_X1_isAnyEmpty [.inr 3, .inl (nI n)] (cw n c tb tn tl se on dd ch ro ot ow tr tu ld lc cc br bw) (some (.inl (bz (anyB (g_p1 ch) n)))) (cw n c tb tn tl se on dd ch ro ot ow tr tu ld lc cc br bw) := by
  refine Ev.to 2 (L1 := [_, _, _]) (st1 := []) rfl ?_
  refine Ev.loop (fun i => [some (.inr 3), some (.inl (nI n)), some (.inl (nI i))]) (fun _ => (cw n c tb tn tl se on dd ch ro ot ow tr tu ld lc cc br bw)) (fun i => ∀ j, j < i → g_p1 ch j = false) 0 n (Nat.zero_le n) (fun j hj => absurd hj (by omega)) (fun i _ hi hp kk => ?_) (fun hp => ?_)
  · rw [nI_succ] at kk
    refine Ev.to 999 rfl ?_
    refine Ev.ff (nI_ng hi (by omega)) ?_
    refine Ev.to 999 rfl ?_
    refine Ev.ald rfl rfl (by omega) (by decide) ?_
    refine Ev.to 999 rfl ?_
    refine Ev.if_ (fun h => ?_) (fun h => ?_)
    · refine Ev.to 999 rfl ?_
      exact Ev.zret rfl rfl (by rw [bz_t (anyB_t hi (decide_eq_true h))]) rfl (Or.inr rfl)
    · exact Ev.to 2 (L1 := [_, _, _]) rfl (kk (lt_s' hp (decide_eq_false h)))
  · refine Ev.to 999 rfl ?_
    refine Ev.tt (nI_gg (by omega)) ?_
    refine Ev.to 999 rfl ?_
    exact Ev.zret rfl rfl (by rw [bz_f (anyB_f hp)]) rfl (Or.inl rfl)
def g_p4 (ch : Nat → Int32) (i : Nat) : Bool := !g_ht (ch i)
theorem e_isAnyTorn {n : Nat} {c : Int32} {tb tn : Nat → Int32} {tl : Nat} {se on : Nat → Int32} {dd : Int32} {ch ro ot ow tr tu ld : Nat → Int32} {lc : Nat} {cc br bw : Int32} (hn : n ≤ 8) : Cl m_X1_isAnyTorn [.inr 3, .inl (nI n)] (cw n c tb tn tl se on dd ch ro ot ow tr tu ld lc cc br bw) (some (.inl (bz (anyB (g_p4 ch) n)))) (cw n c tb tn tl se on dd ch ro ot ow tr tu ld lc cc br bw) := by
  refine Ev.to 2 (L1 := [_, _, _]) (st1 := []) rfl ?_
  refine Ev.loop (fun i => [some (.inr 3), some (.inl (nI n)), some (.inl (nI i))]) (fun _ => (cw n c tb tn tl se on dd ch ro ot ow tr tu ld lc cc br bw)) (fun i => ∀ j, j < i → g_p4 ch j = false) 0 n (Nat.zero_le n) (fun j hj => absurd hj (by omega)) (fun i _ hi hp kk => ?_) (fun hp => ?_)
  · rw [nI_succ] at kk
    refine Ev.to 999 rfl ?_
    refine Ev.ff (nI_ng hi (by omega)) ?_
    refine Ev.to 999 rfl ?_
    refine Ev.ald rfl rfl (by omega) (by decide) ?_
    refine Ev.callS (rest := []) rfl rfl (e_hangs _ _) ?_
    refine Ev.to 999 rfl ?_
    refine Ev.on (fun h => ?_) (fun h => ?_)
    · refine Ev.to 999 rfl ?_
      exact Ev.zret rfl rfl (by rw [bz_t (anyB_t hi (by rw [g_p4, h]; rfl))]) rfl (Or.inr rfl)
    · exact Ev.to 2 (L1 := [_, _, _]) rfl (kk (lt_s' hp (by rw [g_p4, h]; rfl)))
  · refine Ev.to 999 rfl ?_
    refine Ev.tt (nI_gg (by omega)) ?_
    refine Ev.to 999 rfl ?_
    exact Ev.zret rfl rfl (by rw [bz_f (anyB_f hp)]) rfl (Or.inl rfl)
def g_p5i (tb ch : Nat → Int32) (i j : Nat) : Bool := decide (¬ tb (8 * i + j) = 0 ∧ ch i &&& g_nb (ch j) = 0)
def g_p5 (tb ch : Nat → Int32) (i : Nat) : Bool := anyB (g_p5i tb ch i) i
theorem e_isAnyPairApart {n : Nat} {c : Int32} {tb tn : Nat → Int32} {tl : Nat} {se on : Nat → Int32} {dd : Int32} {ch ro ot ow tr tu ld : Nat → Int32} {lc : Nat} {cc br bw : Int32} (hn : n ≤ 8) : Cl m_X1_isAnyPairApart [.inr 3, .inr 1] (cw n c tb tn tl se on dd ch ro ot ow tr tu ld lc cc br bw) (some (.inl (bz (anyB (g_p5 tb ch) n)))) (cw n c tb tn tl se on dd ch ro ot ow tr tu ld lc cc br bw) := by
  refine Ev.to 2 (L1 := [_, _, _, _]) (st1 := []) rfl ?_
  refine Ev.loop (fun i => [some (.inr 3), some (.inr 1), some (.inl (nI i)), none]) (fun _ => (cw n c tb tn tl se on dd ch ro ot ow tr tu ld lc cc br bw)) (fun i => ∀ j, j < i → g_p5 tb ch j = false) 0 n (Nat.zero_le n) (fun j hj => absurd hj (by omega)) (fun i _ hi hp kk => ?_) (fun hp => ?_)
  · rw [nI_succ] at kk
    refine Ev.to 999 rfl ?_
    refine Ev.callV rfl rfl e_size ?_
    refine Ev.to 999 rfl ?_
    refine Ev.ff (nI_ng hi (by omega)) ?_
    refine Ev.to 12 (L1 := [_, _, _, _]) (st1 := []) rfl ?_
    refine Ev.loop (fun j => [some (.inr 3), some (.inr 1), some (.inl (nI i)), some (.inl (nI j))]) (fun _ => (cw n c tb tn tl se on dd ch ro ot ow tr tu ld lc cc br bw)) (fun j => ∀ q, q < j → g_p5i tb ch i q = false) 0 i (Nat.zero_le i) (fun j hj => absurd hj (by omega)) (fun j _ hj hp2 k2 => ?_) (fun hp2 => ?_)
    · rw [nI_succ] at k2
      refine Ev.to 999 rfl ?_
      refine Ev.ff (nI_ng hj (by omega)) ?_
      refine Ev.to 999 rfl ?_
      refine Ev.callV (rest := []) rfl rfl (e_between (by omega) (by omega)) ?_
      refine Ev.to 999 rfl ?_
      refine Ev.if_ (fun h => ?_) (fun h => ?_)
      · exact Ev.to 12 (L1 := [_, _, _, _]) rfl (k2 (lt_s' hp2 (decide_eq_false (fun q => q.1 h))))
      · refine Ev.to 999 rfl ?_
        refine Ev.ald rfl rfl (by omega) (by decide) ?_
        refine Ev.to 999 rfl ?_
        refine Ev.ald rfl rfl (by omega) (by decide) ?_
        refine Ev.callS rfl rfl (e_nb _ _) ?_
        refine Ev.to 999 rfl ?_
        refine Ev.if_ (fun h2 => ?_) (fun h2 => ?_)
        · refine Ev.to 999 rfl ?_
          exact Ev.zret rfl rfl (by rw [bz_t (show anyB (g_p5 tb ch) n = true from anyB_t hi (show g_p5 tb ch i = true from anyB_t hj (decide_eq_true ⟨h, h2⟩)))]) rfl (Or.inr rfl)
        · exact Ev.to 12 (L1 := [_, _, _, _]) rfl (k2 (lt_s' hp2 (decide_eq_false (fun q => h2 q.2))))
    · refine Ev.to 999 rfl ?_
      refine Ev.tt (nI_gg (by omega)) ?_
      exact Ev.to 2 (L1 := [_, _, _, _]) rfl (Ev.fg (kk (lt_s' hp (anyB_f hp2))) (le_cc (le_cc (le_cc (le_nc le_nil)))))
  · refine Ev.to 999 rfl ?_
    refine Ev.callV rfl rfl e_size ?_
    refine Ev.to 999 rfl ?_
    refine Ev.tt (nI_gg (by omega)) ?_
    refine Ev.to 999 rfl ?_
    exact Ev.zret rfl rfl (by rw [bz_f (anyB_f hp)]) rfl (Or.inl rfl)
def g_ff (n : Nat) (tb ch : Nat → Int32) (dd : Int32) : Int32 := if anyB (g_p1 ch) n = true then 1 else if ¬ fd (g_all ch) 0 8 &&& dd = 0 then 2 else if ¬ fd (g_tog ch) 0 8 = ibc (fd (g_all ch) 0 8) then 3 else if anyB (g_p4 ch) n = true then 4 else if anyB (g_p5 tb ch) n = true then 5 else if fd (g_tog ch) 0 8 ≤ 14 then 0 else 6
theorem e_firstFailing {n : Nat} {c : Int32} {tb tn : Nat → Int32} {tl : Nat} {se on : Nat → Int32} {dd : Int32} {ch ro ot ow tr tu ld : Nat → Int32} {lc : Nat} {cc br bw : Int32} (hn : n ≤ 8) : Cl m_X1_firstFailing [.inr 3, .inr 1] (cw n c tb tn tl se on dd ch ro ot ow tr tu ld lc cc br bw) (some (.inl (g_ff n tb ch dd))) (cw n c tb tn tl se on dd ch ro ot ow tr tu ld lc cc br bw) := by
  rw [g_ff]
  refine Ev.to 999 rfl ?_
  refine Ev.callV rfl rfl e_size ?_
  refine Ev.to 999 rfl ?_
  refine Ev.callV (rest := []) rfl rfl (e_isAnyEmpty hn) ?_
  refine Ev.to 999 rfl ?_
  refine Ev.on (fun h1 => ?_) (fun h1 => ?_)
  · rw [if_neg (by rw [h1]; decide)]
    refine Ev.to 999 rfl ?_
    refine Ev.callV rfl rfl e_cells ?_
    refine Ev.to 999 rfl ?_
    refine Ev.if_ (fun h2 => ?_) (fun h2 => ?_)
    · rw [if_neg (fun q => q h2)]
      refine Ev.to 999 rfl ?_
      refine Ev.callV rfl rfl e_lengths ?_
      refine Ev.to 999 rfl ?_
      refine Ev.callV rfl rfl e_cells ?_
      refine Ev.to 999 rfl ?_
      refine Ev.callS rfl rfl (j_bc _ _) ?_
      refine Ev.to 999 rfl ?_
      refine Ev.if_ (fun h3 => ?_) (fun h3 => ?_)
      · rw [if_neg (fun q => q h3)]
        refine Ev.to 999 rfl ?_
        refine Ev.callV rfl rfl e_size ?_
        refine Ev.to 999 rfl ?_
        refine Ev.callV (rest := []) rfl rfl (e_isAnyTorn hn) ?_
        refine Ev.to 999 rfl ?_
        refine Ev.on (fun h4 => ?_) (fun h4 => ?_)
        · rw [if_neg (by rw [h4]; decide)]
          refine Ev.to 999 rfl ?_
          refine Ev.callV (rest := []) rfl rfl (e_isAnyPairApart hn) ?_
          refine Ev.to 999 rfl ?_
          refine Ev.on (fun h5 => ?_) (fun h5 => ?_)
          · rw [if_neg (by rw [h5]; decide)]
            refine Ev.to 999 rfl ?_
            refine Ev.callV rfl rfl e_lengths ?_
            refine Ev.to 999 rfl ?_
            refine Ev.if_ (fun h6 => ?_) (fun h6 => ?_)
            · refine Ev.to 999 rfl ?_
              exact Ev.iret rfl rfl (by rw [if_pos h6]) rfl
            · refine Ev.to 999 rfl ?_
              exact Ev.iret rfl rfl (by rw [if_neg h6]) rfl
          · rw [if_pos h5]
            refine Ev.to 999 rfl ?_
            exact Ev.iret rfl rfl rfl rfl
        · rw [if_pos h4]
          refine Ev.to 999 rfl ?_
          exact Ev.iret rfl rfl rfl rfl
      · rw [if_pos h3]
        refine Ev.to 999 rfl ?_
        exact Ev.iret rfl rfl rfl rfl
    · rw [if_pos h2]
      refine Ev.to 999 rfl ?_
      exact Ev.iret rfl rfl rfl rfl
  · rw [if_pos h1]
    refine Ev.to 999 rfl ?_
    exact Ev.iret rfl rfl rfl rfl
