/-! ColdGrid, the first half -/
theorem c_isLetter {n : Nat} {c : Int32} {tb tn : Nat → Int32} {tl : Nat} {se on : Nat → Int32} {dd : Int32} {ch ro ot ow tr tu ld : Nat → Int32} {lc : Nat} {cc br bw : Int32} (x : Int32) : Cl m_X4_isLetter [.inr 0, .inl x] (cw n c tb tn tl se on dd ch ro ot ow tr tu ld lc cc br bw) (some (.inl (bz (inw x 0 (nI n - 1))))) (cw n c tb tn tl se on dd ch ro ot ow tr tu ld lc cc br bw) := by
  refine Ev.to 999 rfl ?_
  refine Ev.callV rfl rfl e_size ?_
  refine Ev.to 999 rfl ?_
  refine Ev.callS rfl rfl (e_isWithin _ _ _ _) ?_
  exact Ev.zret rfl rfl rfl rfl (bz_01 _)
theorem c_isSet {n : Nat} {c : Int32} {tb tn : Nat → Int32} {tl : Nat} {se on : Nat → Int32} {dd : Int32} {ch ro ot ow tr tu ld : Nat → Int32} {lc : Nat} {cc br bw : Int32} (hn : n ≤ 8) (x : Int32) : Cl m_X4_isSetOfLetters [.inr 0, .inl x] (cw n c tb tn tl se on dd ch ro ot ow tr tu ld lc cc br bw) (some (.inl (bz (inw x 0 (nI (2 ^ n) - 1))))) (cw n c tb tn tl se on dd ch ro ot ow tr tu ld lc cc br bw) := by
  refine Ev.to 999 rfl ?_
  refine Ev.callV rfl rfl (e_states hn) ?_
  refine Ev.to 999 rfl ?_
  refine Ev.callS rfl rfl (e_isWithin _ _ _ _) ?_
  exact Ev.zret rfl rfl rfl rfl (bz_01 _)
theorem c_letters_no {n : Nat} {c : Int32} {tb tn : Nat → Int32} {tl : Nat} {se on : Nat → Int32} {dd : Int32} {ch ro ot ow tr tu ld : Nat → Int32} {lc : Nat} {cc br bw : Int32} {x : Int32} (h : inw x 1 8 = false) : Cl m_X4_letters [.inr 0, .inl x] (cw n c tb tn tl se on dd ch ro ot ow tr tu ld lc cc br bw) (some (.inl (-2))) (cw n c tb tn tl se on dd ch ro ot ow tr tu ld lc cc br bw) := by
  refine Ev.to 999 rfl ?_
  refine Ev.callS (rest := []) rfl rfl (e_isWithin _ _ _ _) ?_
  refine Ev.to 999 rfl ?_
  refine Ev.tt (bz_f h) ?_
  refine Ev.to 999 rfl ?_
  exact Ev.iret rfl rfl rfl rfl
theorem c_letters {n : Nat} {c : Int32} {tb tn : Nat → Int32} {tl : Nat} {se on : Nat → Int32} {dd : Int32} {ch ro ot ow tr tu ld : Nat → Int32} {lc : Nat} {cc br bw : Int32} (m : Nat) (h : inw (nI m) 1 8 = true) : Cl m_X4_letters [.inr 0, .inl (nI m)] (cw n c tb tn tl se on dd ch ro ot ow tr tu ld lc cc br bw) (some (.inl 1)) (cw (m) (0) (fd (fun j f => upd f j 0) tb 64) tn (0) se on dd (fd (fun j f => upd f j 0) ch 8) ro ot ow tr tu ld lc cc br bw) := by
  refine Ev.to 999 rfl ?_
  refine Ev.callS (rest := []) rfl rfl (e_isWithin _ _ _ _) ?_
  refine Ev.to 999 rfl ?_
  refine Ev.ff (by rw [bz_t h]; decide) ?_
  refine Ev.to 999 rfl ?_
  refine Ev.callV (rest := []) rfl rfl (e_startAnew m) ?_
  refine Ev.to 999 rfl ?_
  refine Ev.callV (rest := []) rfl rfl e_forgetAll ?_
  refine Ev.to 999 rfl ?_
  refine Ev.callV (rest := []) rfl rfl e_forgetChains ?_
  refine Ev.to 999 rfl ?_
  exact Ev.iret rfl rfl rfl rfl
theorem c_weigh_no {n : Nat} {c : Int32} {tb tn : Nat → Int32} {tl : Nat} {se on : Nat → Int32} {dd : Int32} {ch ro ot ow tr tu ld : Nat → Int32} {lc : Nat} {cc br bw : Int32} {i j x : Int32} (h : inw i 0 (nI n - 1) = false ∨ inw j 0 (nI n - 1) = false ∨ inw x (-60) 60 = false) : Cl m_X4_weigh [.inr 0, .inl i, .inl j, .inl x] (cw n c tb tn tl se on dd ch ro ot ow tr tu ld lc cc br bw) (some (.inl (-2147483648))) (cw n c tb tn tl se on dd ch ro ot ow tr tu ld lc cc br bw) := by
  have no : Ev m_X4_weigh 27 [some (.inr 0), some (.inl i), some (.inl j), some (.inl x), none] [] (cw n c tb tn tl se on dd ch ro ot ow tr tu ld lc cc br bw) (some (.inl (-2147483648)), (cw n c tb tn tl se on dd ch ro ot ow tr tu ld lc cc br bw)) := by
    refine Ev.to 999 rfl ?_
    exact Ev.iret rfl rfl rfl rfl
  refine Ev.to 999 rfl ?_
  refine Ev.callV (rest := []) rfl rfl (c_isLetter _) ?_
  refine Ev.to 999 rfl ?_
  refine Ev.on (fun _ => no) (fun h1 => ?_)
  refine Ev.to 999 rfl ?_
  refine Ev.callV (rest := []) rfl rfl (c_isLetter _) ?_
  refine Ev.to 999 rfl ?_
  refine Ev.on (fun _ => no) (fun h2 => ?_)
  refine Ev.to 999 rfl ?_
  refine Ev.callS (rest := []) rfl rfl (e_isWithin _ _ _ _) ?_
  refine Ev.to 999 rfl ?_
  refine Ev.on (fun _ => no) (fun h3 => ?_)
  rw [h1, h2, h3] at h
  exact absurd h (by decide)
theorem c_weigh {n : Nat} {c : Int32} {tb tn : Nat → Int32} {tl : Nat} {se on : Nat → Int32} {dd : Int32} {ch ro ot ow tr tu ld : Nat → Int32} {lc : Nat} {cc br bw : Int32} {a b : Nat} {x : Int32} (ha : a < 8) (hb : b < 8) (h1 : inw (nI a) 0 (nI n - 1) = true) (h2 : inw (nI b) 0 (nI n - 1) = true) (h3 : inw x (-60) 60 = true) : Cl m_X4_weigh [.inr 0, .inl (nI a), .inl (nI b), .inl x] (cw n c tb tn tl se on dd ch ro ot ow tr tu ld lc cc br bw) (some (.inl (tb (8 * a + b)))) (cw n c (upd (upd tb (8 * a + b) x) (8 * b + a) x) tn tl se on dd ch ro ot ow tr tu ld lc cc br bw) := by
  refine Ev.to 999 rfl ?_
  refine Ev.callV (rest := []) rfl rfl (c_isLetter _) ?_
  refine Ev.to 999 rfl ?_
  refine Ev.ff (by rw [bz_t h1]; decide) ?_
  refine Ev.to 999 rfl ?_
  refine Ev.callV (rest := []) rfl rfl (c_isLetter _) ?_
  refine Ev.to 999 rfl ?_
  refine Ev.ff (by rw [bz_t h2]; decide) ?_
  refine Ev.to 999 rfl ?_
  refine Ev.callS (rest := []) rfl rfl (e_isWithin _ _ _ _) ?_
  refine Ev.to 999 rfl ?_
  refine Ev.ff (by rw [bz_t h3]; decide) ?_
  refine Ev.to 999 rfl ?_
  refine Ev.callV (rest := []) rfl rfl (e_between ha hb) ?_
  refine Ev.to 999 (L1 := [_, _, _, _, _]) rfl ?_
  refine Ev.callV (rest := []) rfl rfl (e_setBetween ha hb _) ?_
  refine Ev.to 999 rfl ?_
  exact Ev.iret rfl rfl rfl rfl
theorem c_weight_no {n : Nat} {c : Int32} {tb tn : Nat → Int32} {tl : Nat} {se on : Nat → Int32} {dd : Int32} {ch ro ot ow tr tu ld : Nat → Int32} {lc : Nat} {cc br bw : Int32} {i j : Int32} (h : inw i 0 (nI n - 1) = false ∨ inw j 0 (nI n - 1) = false) : Cl m_X4_weight [.inr 0, .inl i, .inl j] (cw n c tb tn tl se on dd ch ro ot ow tr tu ld lc cc br bw) (some (.inl (-2147483648))) (cw n c tb tn tl se on dd ch ro ot ow tr tu ld lc cc br bw) := by
  have no : Ev m_X4_weight 16 [some (.inr 0), some (.inl i), some (.inl j)] [] (cw n c tb tn tl se on dd ch ro ot ow tr tu ld lc cc br bw) (some (.inl (-2147483648)), (cw n c tb tn tl se on dd ch ro ot ow tr tu ld lc cc br bw)) := by
    refine Ev.to 999 rfl ?_
    exact Ev.iret rfl rfl rfl rfl
  refine Ev.to 999 rfl ?_
  refine Ev.callV (rest := []) rfl rfl (c_isLetter _) ?_
  refine Ev.to 999 rfl ?_
  refine Ev.on (fun _ => no) (fun h1 => ?_)
  refine Ev.to 999 rfl ?_
  refine Ev.callV (rest := []) rfl rfl (c_isLetter _) ?_
  refine Ev.to 999 rfl ?_
  refine Ev.on (fun _ => no) (fun h2 => ?_)
  rw [h1, h2] at h
  exact absurd h (by decide)
theorem c_weight {n : Nat} {c : Int32} {tb tn : Nat → Int32} {tl : Nat} {se on : Nat → Int32} {dd : Int32} {ch ro ot ow tr tu ld : Nat → Int32} {lc : Nat} {cc br bw : Int32} {a b : Nat} (ha : a < 8) (hb : b < 8) (h1 : inw (nI a) 0 (nI n - 1) = true) (h2 : inw (nI b) 0 (nI n - 1) = true) : Cl m_X4_weight [.inr 0, .inl (nI a), .inl (nI b)] (cw n c tb tn tl se on dd ch ro ot ow tr tu ld lc cc br bw) (some (.inl (tb (8 * a + b)))) (cw n c tb tn tl se on dd ch ro ot ow tr tu ld lc cc br bw) := by
  refine Ev.to 999 rfl ?_
  refine Ev.callV (rest := []) rfl rfl (c_isLetter _) ?_
  refine Ev.to 999 rfl ?_
  refine Ev.ff (by rw [bz_t h1]; decide) ?_
  refine Ev.to 999 rfl ?_
  refine Ev.callV (rest := []) rfl rfl (c_isLetter _) ?_
  refine Ev.to 999 rfl ?_
  refine Ev.ff (by rw [bz_t h2]; decide) ?_
  refine Ev.to 999 rfl ?_
  refine Ev.callV (rest := []) rfl rfl (e_between ha hb) ?_
  exact Ev.iret rfl rfl rfl rfl
theorem c_energy {n : Nat} {c : Int32} {tb tn : Nat → Int32} {tl : Nat} {se on : Nat → Int32} {dd : Int32} {ch ro ot ow tr tu ld : Nat → Int32} {lc : Nat} {cc br bw : Int32} (hn : n ≤ 8) (s : Int32) : Cl m_X4_energy [.inr 0, .inl s] (cw n c tb tn tl se on dd ch ro ot ow tr tu ld lc cc br bw) (some (.inl (if inw s 0 (nI (2 ^ n) - 1) = true then g_en n c tb s else -2147483648))) (cw n c tb tn tl se on dd ch ro ot ow tr tu ld lc cc br bw) := by
  refine Ev.to 999 rfl ?_
  refine Ev.callV (rest := []) rfl rfl (c_isSet hn _) ?_
  refine Ev.to 999 rfl ?_
  refine Ev.on (fun h => ?_) (fun h => ?_)
  · rw [if_neg (by rw [h]; decide)]
    refine Ev.to 999 rfl ?_
    exact Ev.iret rfl rfl rfl rfl
  · rw [if_pos h]
    refine Ev.to 999 rfl ?_
    refine Ev.callV (rest := []) rfl rfl (e_energyOf hn _) ?_
    exact Ev.iret rfl rfl rfl rfl
def g_lok (n : Nat) (s k : Int32) : Bool := inw s 0 (nI (2 ^ n) - 1) && (decide (¬ s = 0) && inw k 0 (ibc s))
theorem c_law_no {n : Nat} {c : Int32} {tb tn : Nat → Int32} {tl : Nat} {se on : Nat → Int32} {dd : Int32} {ch ro ot ow tr tu ld : Nat → Int32} {lc : Nat} {cc br bw : Int32} (hn : n ≤ 8) {s k : Int32} (h : g_lok n s k = false) : Cl m_X4_law [.inr 0, .inl s, .inl k] (cw n c tb tn tl se on dd ch ro ot ow tr tu ld lc cc br bw) (some (.inl (-2))) (cw n c tb tn tl se on dd ch ro ot ow tr tu ld lc cc br bw) := by
  have no : Ev m_X4_law 24 [some (.inr 0), some (.inl s), some (.inl k)] [] (cw n c tb tn tl se on dd ch ro ot ow tr tu ld lc cc br bw) (some (.inl (-2)), (cw n c tb tn tl se on dd ch ro ot ow tr tu ld lc cc br bw)) := by
    refine Ev.to 999 rfl ?_
    exact Ev.iret rfl rfl rfl rfl
  refine Ev.to 999 rfl ?_
  refine Ev.callV (rest := []) rfl rfl (c_isSet hn _) ?_
  refine Ev.to 999 rfl ?_
  refine Ev.on (fun _ => no) (fun h1 => ?_)
  refine Ev.to 999 rfl ?_
  refine Ev.if_ (fun _ => no) (fun h2 => ?_)
  refine Ev.to 999 rfl ?_
  refine Ev.callS rfl rfl (j_bc _ _) ?_
  refine Ev.callS (rest := []) rfl rfl (e_isWithin _ _ _ _) ?_
  refine Ev.to 999 rfl ?_
  refine Ev.on (fun _ => no) (fun h3 => ?_)
  rw [g_lok, h1, h3, decide_eq_true h2] at h
  exact absurd h (by decide)
theorem c_law_go {n : Nat} {c : Int32} {tb tn : Nat → Int32} {tl : Nat} {se on : Nat → Int32} {dd : Int32} {ch ro ot ow tr tu ld : Nat → Int32} {lc : Nat} {cc br bw : Int32} (hn : n ≤ 8) {s k : Int32} (h : g_lok n s k = true) {x : Option ix_V × ix_W} (kk : Ev m_X4_law 27 [some (.inr 0), some (.inl s), some (.inl k)] [] (cw n c tb tn tl se on dd ch ro ot ow tr tu ld lc cc br bw) x) : Ev m_X4_law 0 (ix_en m_X4_law [.inr 0, .inl s, .inl k]) [] (cw n c tb tn tl se on dd ch ro ot ow tr tu ld lc cc br bw) x := by
  rw [g_lok, Bool.and_eq_true, Bool.and_eq_true, decide_eq_true_eq] at h
  refine Ev.to 999 rfl ?_
  refine Ev.callV (rest := []) rfl rfl (c_isSet hn _) ?_
  refine Ev.to 999 rfl ?_
  refine Ev.ff (by rw [bz_t h.1]; decide) ?_
  refine Ev.to 999 rfl ?_
  refine Ev.ff h.2.1 ?_
  refine Ev.to 999 rfl ?_
  refine Ev.callS rfl rfl (j_bc _ _) ?_
  refine Ev.callS (rest := []) rfl rfl (e_isWithin _ _ _ _) ?_
  refine Ev.to 999 rfl ?_
  refine Ev.ff (by rw [bz_t h.2.2]; decide) ?_
  exact kk
theorem c_law_full {n : Nat} {c : Int32} {tb tn : Nat → Int32} {tl : Nat} {se on : Nat → Int32} {dd : Int32} {ch ro ot ow tr tu ld : Nat → Int32} {lc : Nat} {cc br bw : Int32} (hn : n ≤ 8) {s k : Int32} (h : g_lok n s k = true) (ht : tl = 6) : Cl m_X4_law [.inr 0, .inl s, .inl k] (cw n c tb tn tl se on dd ch ro ot ow tr tu ld lc cc br bw) (some (.inl (-4))) (cw n c tb tn tl se on dd ch ro ot ow tr tu ld lc cc br bw) := by
  refine c_law_go hn h ?_
  refine Ev.to 999 rfl ?_
  refine Ev.callV (rest := []) rfl rfl (e_addFull ht _ _) ?_
  exact Ev.iret rfl rfl rfl rfl
theorem c_law {n : Nat} {c : Int32} {tb tn : Nat → Int32} {tl : Nat} {se on : Nat → Int32} {dd : Int32} {ch ro ot ow tr tu ld : Nat → Int32} {lc : Nat} {cc br bw : Int32} (hn : n ≤ 8) {s k : Int32} (h : g_lok n s k = true) (ht : tl < 6) : Cl m_X4_law [.inr 0, .inl s, .inl k] (cw n c tb tn tl se on dd ch ro ot ow tr tu ld lc cc br bw) (some (.inl (nI tl))) (cw n c tb tn (tl + 1) (upd se tl s) (upd on tl k) dd ch ro ot ow tr tu ld lc cc br bw) := by
  refine c_law_go hn h ?_
  refine Ev.to 999 rfl ?_
  refine Ev.callV (rest := []) rfl rfl (e_add ht _ _) ?_
  exact Ev.iret rfl rfl rfl rfl
theorem c_unlaw_no {n : Nat} {c : Int32} {tb tn : Nat → Int32} {tl : Nat} {se on : Nat → Int32} {dd : Int32} {ch ro ot ow tr tu ld : Nat → Int32} {lc : Nat} {cc br bw : Int32} (h : tl = 0) : Cl m_X4_unlaw [.inr 0] (cw n c tb tn tl se on dd ch ro ot ow tr tu ld lc cc br bw) (some (.inl (-3))) (cw n c tb tn tl se on dd ch ro ot ow tr tu ld lc cc br bw) := by
  refine Ev.to 999 rfl ?_
  refine Ev.callV (rest := []) rfl rfl (e_dropNo h) ?_
  exact Ev.iret rfl rfl rfl rfl
theorem c_unlaw {n : Nat} {c : Int32} {tb tn : Nat → Int32} {tl : Nat} {se on : Nat → Int32} {dd : Int32} {ch ro ot ow tr tu ld : Nat → Int32} {lc : Nat} {cc br bw : Int32} (h : tl < 6) : Cl m_X4_unlaw [.inr 0] (cw n c tb tn (tl + 1) se on dd ch ro ot ow tr tu ld lc cc br bw) (some (.inl (nI tl))) (cw n c tb tn tl se on dd ch ro ot ow tr tu ld lc cc br bw) := by
  refine Ev.to 999 rfl ?_
  refine Ev.callV (rest := []) rfl rfl (e_drop h) ?_
  exact Ev.iret rfl rfl rfl rfl
/-! best states -/
def g_fw (tl : Nat) (se on : Nat → Int32) (p : Int32) (s : Nat) (f : Nat → Int32) : Nat → Int32 := upd f s (f s + p * g_mis tl se on (nI s))
def g_row (n : Nat) (c : Int32) (tb : Nat → Int32) (tl : Nat) (se on : Nat → Int32) (ro : Nat → Int32) (p : Int32) : Nat → Int32 := fd (g_fw tl se on p) (g_fill n c tb ro) (2 ^ n)
theorem c_fillWeighed {n : Nat} {c : Int32} {tb tn : Nat → Int32} {tl : Nat} {se on : Nat → Int32} {dd : Int32} {ch ro ot ow tr tu ld : Nat → Int32} {lc : Nat} {cc br bw : Int32} (hn : n ≤ 8) (ht : tl ≤ 6) (p : Int32) : Cl m_X4_fillWeighed [.inr 0, .inl p] (cw n c tb tn tl se on dd ch ro ot ow tr tu ld lc cc br bw) none (cw n c tb tn tl se on dd ch (g_row n c tb tl se on ro p) ot ow tr tu ld lc cc br bw) := by
  obtain ⟨hp1, hp2⟩ := pw_le hn
  rw [g_row]
  refine Ev.to 999 rfl ?_
  refine Ev.callV (rest := []) rfl rfl (e_fillro hn) ?_
  generalize g_fill n c tb ro = F0
  refine Ev.to 13 (L1 := [_, _, _]) (st1 := []) rfl ?_
  refine Ev.loop (fun s => [some (.inr 0), some (.inl p), some (.inl (nI s))]) (fun s => (cw n c tb tn tl se on dd ch (fd (g_fw tl se on p) F0 s) ot ow tr tu ld lc cc br bw)) (fun _ => True) 0 (2 ^ n) (Nat.zero_le _) trivial (fun s _ hs _ kk => ?_) (fun _ => ?_)
  · have kk := kk trivial
    rw [nI_succ, fd, g_fw] at kk
    generalize fd (g_fw tl se on p) F0 s = F at kk ⊢
    refine Ev.to 999 rfl ?_
    refine Ev.callV rfl rfl (e_states hn) ?_
    refine Ev.to 999 rfl ?_
    refine Ev.ff (nI_ng hs (by omega)) ?_
    refine Ev.to 999 rfl ?_
    refine Ev.ald rfl rfl (by omega) (by decide) ?_
    refine Ev.to 999 rfl ?_
    refine Ev.callV rfl rfl (e_missedBy ht _) ?_
    refine Ev.to 999 rfl ?_
    refine Ev.ast rfl rfl (by omega) (by decide) ?_
    exact Ev.to 13 (L1 := [_, _, _]) rfl kk
  · refine Ev.to 999 rfl ?_
    refine Ev.callV rfl rfl (e_states hn) ?_
    refine Ev.to 999 rfl ?_
    refine Ev.tt (nI_gg (by omega)) ?_
    exact Ev.vret rfl rfl rfl
def g_mn (R : Nat → Int32) (t : Nat) (a : Int32) : Int32 := imin a (R (t + 1))
def g_low (n : Nat) (R : Nat → Int32) : Int32 := fd (g_mn R) (R 0) (2 ^ n - 1)
theorem c_leastOfRow {n : Nat} {c : Int32} {tb tn : Nat → Int32} {tl : Nat} {se on : Nat → Int32} {dd : Int32} {ch ro ot ow tr tu ld : Nat → Int32} {lc : Nat} {cc br bw : Int32} (hn : n ≤ 8) : Cl m_X4_leastOfRow [.inr 0] (cw n c tb tn tl se on dd ch ro ot ow tr tu ld lc cc br bw) (some (.inl (g_low n ro))) (cw n c tb tn tl se on dd ch ro ot ow tr tu ld lc cc br bw) := by
  obtain ⟨hp1, hp2⟩ := pw_le hn
  rw [g_low]
  refine Ev.to 999 rfl ?_
  refine Ev.ald (a := 0) rfl rfl (by decide) (by decide) ?_
  refine Ev.to 9 (L1 := [_, _, _]) (st1 := []) rfl ?_
  refine Ev.loop (fun t => [some (.inr 0), some (.inl (fd (g_mn ro) (ro 0) t)), some (.inl (nI (t + 1)))]) (fun _ => (cw n c tb tn tl se on dd ch ro ot ow tr tu ld lc cc br bw)) (fun _ => True) 0 (2 ^ n - 1) (Nat.zero_le _) trivial (fun t _ ht _ kk => ?_) (fun _ => ?_)
  · have kk := kk trivial
    rw [nI_succ (t + 1), fd, g_mn] at kk
    refine Ev.to 999 rfl ?_
    refine Ev.callV rfl rfl (e_states hn) ?_
    refine Ev.to 999 rfl ?_
    refine Ev.ff (nI_ng (by omega) (by omega)) ?_
    refine Ev.to 999 rfl ?_
    refine Ev.ald rfl rfl (by omega) (by decide) ?_
    refine Ev.callS rfl rfl (j_min _ _ _) ?_
    exact Ev.to 9 (L1 := [_, _, _]) rfl kk
  · refine Ev.to 999 rfl ?_
    refine Ev.callV rfl rfl (e_states hn) ?_
    refine Ev.to 999 rfl ?_
    rw [show 2 ^ n - 1 + 1 = 2 ^ n by omega]
    refine Ev.tt (nI_gg (by omega)) ?_
    refine Ev.to 999 rfl ?_
    exact Ev.iret rfl rfl rfl rfl
theorem c_best_no {n : Nat} {c : Int32} {tb tn : Nat → Int32} {tl : Nat} {se on : Nat → Int32} {dd : Int32} {ch ro ot ow tr tu ld : Nat → Int32} {lc : Nat} {cc br bw : Int32} {p : Int32} (h : inw p 0 1000 = false) : Cl m_X4_best [.inr 0, .inl p] (cw n c tb tn tl se on dd ch ro ot ow tr tu ld lc cc br bw) (some (.inl (-2147483648))) (cw n c tb tn tl se on dd ch ro ot ow tr tu ld lc cc br bw) := by
  refine Ev.to 999 rfl ?_
  refine Ev.callS (rest := []) rfl rfl (e_isPull _ _) ?_
  refine Ev.to 999 rfl ?_
  refine Ev.tt (bz_f h) ?_
  refine Ev.to 999 rfl ?_
  exact Ev.iret rfl rfl rfl rfl
theorem c_best {n : Nat} {c : Int32} {tb tn : Nat → Int32} {tl : Nat} {se on : Nat → Int32} {dd : Int32} {ch ro ot ow tr tu ld : Nat → Int32} {lc : Nat} {cc br bw : Int32} (hn : n ≤ 8) (ht : tl ≤ 6) {p : Int32} (h : inw p 0 1000 = true) : Cl m_X4_best [.inr 0, .inl p] (cw n c tb tn tl se on dd ch ro ot ow tr tu ld lc cc br bw) (some (.inl (g_low n (g_row n c tb tl se on ro p)))) (cw n c tb tn tl se on dd ch (g_row n c tb tl se on ro p) ot ow tr tu ld lc cc br bw) := by
  refine Ev.to 999 rfl ?_
  refine Ev.callS (rest := []) rfl rfl (e_isPull _ _) ?_
  refine Ev.to 999 rfl ?_
  refine Ev.ff (by rw [bz_t h]; decide) ?_
  refine Ev.to 999 rfl ?_
  refine Ev.callV (rest := []) rfl rfl (c_fillWeighed hn ht _) ?_
  refine Ev.to 999 rfl ?_
  refine Ev.callV (rest := []) rfl rfl (c_leastOfRow hn) ?_
  exact Ev.iret rfl rfl rfl rfl
def g_li (R : Nat → Int32) (m : Int32) (s : Nat) (p : (Nat → Int32) × Nat) : (Nat → Int32) × Nat := if R s = m then (upd p.1 p.2 (nI s), p.2 + 1) else p
theorem g_li_le (R : Nat → Int32) (m : Int32) (f : Nat → Int32) (s : Nat) : (fd (g_li R m) (f, 0) s).2 ≤ s := by
  induction s with
  | zero => exact Nat.le_refl _
  | succ s ih =>
    rw [fd, g_li]
    split
    · exact Nat.succ_le_succ ih
    · omega
def g_lst (n : Nat) (R : Nat → Int32) (f : Nat → Int32) : (Nat → Int32) × Nat := fd (g_li R (g_low n R)) (f, 0) (2 ^ n)
theorem c_listBest {n : Nat} {c : Int32} {tb tn : Nat → Int32} {tl : Nat} {se on : Nat → Int32} {dd : Int32} {ch ro ot ow tr tu ld : Nat → Int32} {lc : Nat} {cc br bw : Int32} (hn : n ≤ 8) (ht : tl ≤ 6) (p : Int32) : Cl m_X4_listBest [.inr 0, .inl p] (cw n c tb tn tl se on dd ch ro ot ow tr tu ld lc cc br bw) (some (.inl (nI (g_lst n (g_row n c tb tl se on ro p) ot).2))) (cw n c tb tn tl se on dd ch (g_row n c tb tl se on ro p) ((g_lst n (g_row n c tb tl se on ro p) ot).1) ow tr tu ld lc cc br bw) := by
  obtain ⟨hp1, hp2⟩ := pw_le hn
  refine Ev.to 999 rfl ?_
  refine Ev.callV (rest := []) rfl rfl (c_fillWeighed hn ht _) ?_
  refine Ev.to 999 rfl ?_
  refine Ev.callV (rest := []) rfl rfl (c_leastOfRow hn) ?_
  rw [g_lst]
  generalize g_row n c tb tl se on ro p = R
  generalize g_low n R = m
  refine Ev.to 15 (L1 := [_, _, _, _, _]) (st1 := []) rfl ?_
  refine Ev.loop (fun s => [some (.inr 0), some (.inl p), some (.inl m), some (.inl (nI (fd (g_li R m) (ot, 0) s).2)), some (.inl (nI s))]) (fun s => (cw n c tb tn tl se on dd ch (R) ((fd (g_li R m) (ot, 0) s).1) ow tr tu ld lc cc br bw)) (fun _ => True) 0 (2 ^ n) (Nat.zero_le _) trivial (fun s _ hs _ kk => ?_) (fun _ => ?_)
  · have kk := kk trivial
    have hle := g_li_le R m ot s
    rw [nI_succ s, fd, g_li] at kk
    generalize fd (g_li R m) (ot, 0) s = q at kk hle ⊢
    obtain ⟨F, k⟩ := q
    dsimp only at kk hle ⊢
    refine Ev.to 999 rfl ?_
    refine Ev.callV rfl rfl (e_states hn) ?_
    refine Ev.to 999 rfl ?_
    refine Ev.ff (nI_ng hs (by omega)) ?_
    refine Ev.to 999 rfl ?_
    refine Ev.ald rfl rfl (by omega) (by decide) ?_
    refine Ev.to 999 rfl ?_
    refine Ev.if_ (fun h => ?_) (fun h => ?_)
    · rw [if_pos h] at kk
      dsimp only at kk
      rw [nI_succ k] at kk
      refine Ev.to 999 rfl ?_
      refine Ev.ast rfl rfl (by omega) (by decide) ?_
      exact Ev.to 15 (L1 := [_, _, _, _, _]) rfl kk
    · rw [if_neg h] at kk
      exact Ev.to 15 (L1 := [_, _, _, _, _]) rfl kk
  · refine Ev.to 999 rfl ?_
    refine Ev.callV rfl rfl (e_states hn) ?_
    refine Ev.to 999 rfl ?_
    refine Ev.tt (nI_gg (by omega)) ?_
    refine Ev.to 999 rfl ?_
    exact Ev.iret rfl rfl rfl rfl
theorem c_many_no {n : Nat} {c : Int32} {tb tn : Nat → Int32} {tl : Nat} {se on : Nat → Int32} {dd : Int32} {ch ro ot ow tr tu ld : Nat → Int32} {lc : Nat} {cc br bw : Int32} {p : Int32} (h : inw p 0 1000 = false) : Cl m_X4_many [.inr 0, .inl p] (cw n c tb tn tl se on dd ch ro ot ow tr tu ld lc cc br bw) (some (.inl (-2))) (cw n c tb tn tl se on dd ch ro ot ow tr tu ld lc cc br bw) := by
  refine Ev.to 999 rfl ?_
  refine Ev.callS (rest := []) rfl rfl (e_isPull _ _) ?_
  refine Ev.to 999 rfl ?_
  refine Ev.tt (bz_f h) ?_
  refine Ev.to 999 rfl ?_
  exact Ev.iret rfl rfl rfl rfl
theorem c_many {n : Nat} {c : Int32} {tb tn : Nat → Int32} {tl : Nat} {se on : Nat → Int32} {dd : Int32} {ch ro ot ow tr tu ld : Nat → Int32} {lc : Nat} {cc br bw : Int32} (hn : n ≤ 8) (ht : tl ≤ 6) {p : Int32} (h : inw p 0 1000 = true) : Cl m_X4_many [.inr 0, .inl p] (cw n c tb tn tl se on dd ch ro ot ow tr tu ld lc cc br bw) (some (.inl (nI (g_lst n (g_row n c tb tl se on ro p) ot).2))) (cw n c tb tn tl se on dd ch (g_row n c tb tl se on ro p) ((g_lst n (g_row n c tb tl se on ro p) ot).1) ow tr tu ld lc cc br bw) := by
  refine Ev.to 999 rfl ?_
  refine Ev.callS (rest := []) rfl rfl (e_isPull _ _) ?_
  refine Ev.to 999 rfl ?_
  refine Ev.ff (by rw [bz_t h]; decide) ?_
  refine Ev.to 999 rfl ?_
  refine Ev.callV (rest := []) rfl rfl (c_listBest hn ht _) ?_
  exact Ev.iret rfl rfl rfl rfl
theorem c_bestAt_no {n : Nat} {c : Int32} {tb tn : Nat → Int32} {tl : Nat} {se on : Nat → Int32} {dd : Int32} {ch ro ot ow tr tu ld : Nat → Int32} {lc : Nat} {cc br bw : Int32} {p : Int32} (k : Int32) (h : inw p 0 1000 = false) : Cl m_X4_bestAt [.inr 0, .inl p, .inl k] (cw n c tb tn tl se on dd ch ro ot ow tr tu ld lc cc br bw) (some (.inl (-2))) (cw n c tb tn tl se on dd ch ro ot ow tr tu ld lc cc br bw) := by
  refine Ev.to 999 rfl ?_
  refine Ev.callS (rest := []) rfl rfl (e_isPull _ _) ?_
  refine Ev.to 999 rfl ?_
  refine Ev.tt (bz_f h) ?_
  refine Ev.to 999 rfl ?_
  exact Ev.iret rfl rfl rfl rfl
theorem inw_of {x : Int32} {m : Nat} (hm : m < 2 ^ 31) (h : inw x 0 (nI m - 1) = true) : ∃ a : Nat, a < m ∧ x = nI a := by
  obtain ⟨h1, h2⟩ := of_decide_eq_true h
  cases m with
  | zero =>
    have h3 : (nI 0 - 1 : Int32) = -1 := rfl
    rw [h3] at h2
    rw [fa_le] at h1 h2
    have e1 : (0 : Int32).toInt = 0 := rfl
    have e2 : (-1 : Int32).toInt = -1 := rfl
    rw [e1] at h1; rw [e2] at h2; omega
  | succ m =>
    rw [nI_pred] at h2
    obtain ⟨a, ha, rfl⟩ := nI_of (fun q => i32_nlt.mpr h1 q)
    rw [nI_leI ha (by omega)] at h2
    exact ⟨a, by omega, rfl⟩
theorem inw_to {a m : Nat} (hm : m < 2 ^ 31) (ha : a < m) : inw (nI a) 0 (nI m - 1) = true := by
  cases m with
  | zero => omega
  | succ m => rw [nI_pred]; exact inw_nat (by omega) (by omega)
theorem c_bestAt {n : Nat} {c : Int32} {tb tn : Nat → Int32} {tl : Nat} {se on : Nat → Int32} {dd : Int32} {ch ro ot ow tr tu ld : Nat → Int32} {lc : Nat} {cc br bw : Int32} (hn : n ≤ 8) (ht : tl ≤ 6) {p : Int32} (k : Int32) (h : inw p 0 1000 = true) : Cl m_X4_bestAt [.inr 0, .inl p, .inl k] (cw n c tb tn tl se on dd ch ro ot ow tr tu ld lc cc br bw) (some (.inl (if inw k 0 (nI (g_lst n (g_row n c tb tl se on ro p) ot).2 - 1) = true then (g_lst n (g_row n c tb tl se on ro p) ot).1 k.toNatClampNeg else -2))) (cw n c tb tn tl se on dd ch (g_row n c tb tl se on ro p) ((g_lst n (g_row n c tb tl se on ro p) ot).1) ow tr tu ld lc cc br bw) := by
  obtain ⟨hp1, hp2⟩ := pw_le hn
  have hle : (g_lst n (g_row n c tb tl se on ro p) ot).2 ≤ 2 ^ n := g_li_le _ _ _ _
  refine Ev.to 999 rfl ?_
  refine Ev.callS (rest := []) rfl rfl (e_isPull _ _) ?_
  refine Ev.to 999 rfl ?_
  refine Ev.ff (by rw [bz_t h]; decide) ?_
  refine Ev.to 999 rfl ?_
  refine Ev.callV (rest := []) rfl rfl (c_listBest hn ht _) ?_
  generalize g_lst n (g_row n c tb tl se on ro p) ot = z at hle ⊢
  obtain ⟨F, f⟩ := z
  dsimp only at hle ⊢
  refine Ev.to 999 (L1 := [_, _, _, _]) rfl ?_
  refine Ev.callS (rest := []) rfl rfl (e_isWithin _ _ _ _) ?_
  refine Ev.to 999 rfl ?_
  refine Ev.on (fun h1 => ?_) (fun h1 => ?_)
  · rw [if_neg (by intro q; rw [show inw k 0 (nI f - 1) = false from h1] at q; cases q)]
    refine Ev.to 999 rfl ?_
    exact Ev.iret rfl rfl rfl rfl
  · rw [if_pos h1]
    obtain ⟨a, ha, rfl⟩ := inw_of (by omega) h1
    rw [nI_clamp (by omega)]
    refine Ev.to 999 rfl ?_
    refine Ev.ald rfl rfl (by omega) (by decide) ?_
    refine Ev.to 999 rfl ?_
    exact Ev.iret rfl rfl rfl rfl
/-! pull -/
def kpv (o : Option Nat) : Int32 := match o with
  | none => -1
  | some q => nI q
def g_bk (R : Nat → Int32) (M : Nat → Int32) (s : Nat) (o : Option Nat) : Option Nat := if M s = 0 then (match o with
  | none => some s
  | some q => if R q ≤ R s then some q else some s) else o
theorem g_bk_lt (R M : Nat → Int32) (s : Nat) : ∀ q, fd (g_bk R M) none s = some q → q < s := by
  induction s with
  | zero => intro q h; cases h
  | succ s ih =>
    intro q h
    rw [fd, g_bk.eq_def] at h
    split at h
    · split at h
      · cases h; omega
      · rename_i q2 hq2
        split at h
        · cases h; have := ih q hq2; omega
        · cases h; omega
    · have := ih q h; omega
theorem c_bestKeeper {n : Nat} {c : Int32} {tb tn : Nat → Int32} {tl : Nat} {se on : Nat → Int32} {dd : Int32} {ch ro ot ow tr tu ld : Nat → Int32} {lc : Nat} {cc br bw : Int32} (hn : n ≤ 8) (ht : tl ≤ 6) : Cl m_X4_bestKeeper [.inr 0] (cw n c tb tn tl se on dd ch ro ot ow tr tu ld lc cc br bw) (some (.inl (kpv (fd (g_bk ro (fun s => g_mis tl se on (nI s))) none (2 ^ n))))) (cw n c tb tn tl se on dd ch ro ot ow tr tu ld lc cc br bw) := by
  obtain ⟨hp1, hp2⟩ := pw_le hn
  refine Ev.to 4 (L1 := [_, _, _]) (st1 := []) rfl ?_
  refine Ev.loop (fun s => [some (.inr 0), some (.inl (kpv (fd (g_bk ro (fun s => g_mis tl se on (nI s))) none s))), some (.inl (nI s))]) (fun _ => (cw n c tb tn tl se on dd ch ro ot ow tr tu ld lc cc br bw)) (fun _ => True) 0 (2 ^ n) (Nat.zero_le _) trivial (fun s _ hs _ kk => ?_) (fun _ => ?_)
  · have kk := kk trivial
    have hlt := g_bk_lt ro (fun s => g_mis tl se on (nI s)) s
    rw [nI_succ s, fd, g_bk.eq_def] at kk
    generalize fd (g_bk ro (fun s => g_mis tl se on (nI s))) none s = o at kk hlt ⊢
    refine Ev.to 999 rfl ?_
    refine Ev.callV rfl rfl (e_states hn) ?_
    refine Ev.to 999 rfl ?_
    refine Ev.ff (nI_ng hs (by omega)) ?_
    refine Ev.to 999 rfl ?_
    refine Ev.callV (rest := []) rfl rfl (e_missedBy ht _) ?_
    refine Ev.to 999 rfl ?_
    refine Ev.if_ (fun h => ?_) (fun h => ?_)
    · rw [if_pos h] at kk
      refine Ev.to 999 rfl ?_
      cases o with
      | none =>
        exact Ev.to 4 (L1 := [_, _, _]) rfl kk
      | some q =>
        have hq := hlt q rfl
        dsimp only at kk
        refine Ev.ff (by
          show ¬ nI q = -1
          intro z
          have : (nI q).toInt = (-1 : Int32).toInt := by rw [z]
          rw [nI_toInt (by omega)] at this
          have e2 : (-1 : Int32).toInt = -1 := rfl
          omega) ?_
        refine Ev.to 999 rfl ?_
        refine Ev.ald rfl rfl (by omega) (by decide) ?_
        refine Ev.to 999 rfl ?_
        refine Ev.ald (a := q) rfl rfl (by omega) (by decide) ?_
        refine Ev.to 999 rfl ?_
        refine Ev.if_ (fun h2 => ?_) (fun h2 => ?_)
        · rw [if_pos h2] at kk
          exact Ev.to 4 (L1 := [_, _, _]) rfl kk
        · rw [if_neg h2] at kk
          exact Ev.to 4 (L1 := [_, _, _]) rfl kk
    · rw [if_neg h] at kk
      exact Ev.to 4 (L1 := [_, _, _]) rfl kk
  · refine Ev.to 999 rfl ?_
    refine Ev.callV rfl rfl (e_states hn) ?_
    refine Ev.to 999 rfl ?_
    refine Ev.tt (nI_gg (by omega)) ?_
    refine Ev.to 999 rfl ?_
    exact Ev.iret rfl rfl rfl rfl
def g_pl (R M : Nat → Int32) (best : Int32) (s : Nat) (a : Int32) : Int32 := if 0 < M s ∧ R s + a * M s ≤ best then (best - R s) / M s + 1 else a
theorem c_pull_no {n : Nat} {c : Int32} {tb tn : Nat → Int32} {tl : Nat} {se on : Nat → Int32} {dd : Int32} {ch ro ot ow tr tu ld : Nat → Int32} {lc : Nat} {cc br bw : Int32} (hn : n ≤ 8) (ht : tl ≤ 6) (h : fd (g_bk (g_fill n c tb ro) (fun s => g_mis tl se on (nI s))) none (2 ^ n) = none) : Cl m_X4_pull [.inr 0] (cw n c tb tn tl se on dd ch ro ot ow tr tu ld lc cc br bw) (some (.inl (-1))) (cw n c tb tn tl se on dd ch (g_fill n c tb ro) ot ow tr tu ld lc cc br bw) := by
  refine Ev.to 999 rfl ?_
  refine Ev.callV (rest := []) rfl rfl (e_fillro hn) ?_
  refine Ev.to 999 rfl ?_
  refine Ev.callV (rest := []) rfl rfl (c_bestKeeper hn ht) ?_
  rw [h]
  refine Ev.to 999 (L1 := [_, _, _, _, _]) (pc1 := 21) rfl ?_
  refine Ev.to 999 rfl ?_
  exact Ev.iret rfl rfl rfl rfl
theorem c_pull {n : Nat} {c : Int32} {tb tn : Nat → Int32} {tl : Nat} {se on : Nat → Int32} {dd : Int32} {ch ro ot ow tr tu ld : Nat → Int32} {lc : Nat} {cc br bw : Int32} (hn : n ≤ 8) (ht : tl ≤ 6) {q : Nat} (h : fd (g_bk (g_fill n c tb ro) (fun s => g_mis tl se on (nI s))) none (2 ^ n) = some q) : Cl m_X4_pull [.inr 0] (cw n c tb tn tl se on dd ch ro ot ow tr tu ld lc cc br bw) (some (.inl (imin (fd (g_pl (g_fill n c tb ro) (fun s => g_mis tl se on (nI s)) (g_fill n c tb ro q)) 0 (2 ^ n)) 1001))) (cw n c tb tn tl se on dd ch (g_fill n c tb ro) ot ow tr tu ld lc cc br bw) := by
  obtain ⟨hp1, hp2⟩ := pw_le hn
  have hq := g_bk_lt _ _ _ q h
  refine Ev.to 999 rfl ?_
  refine Ev.callV (rest := []) rfl rfl (e_fillro hn) ?_
  refine Ev.to 999 rfl ?_
  refine Ev.callV (rest := []) rfl rfl (c_bestKeeper hn ht) ?_
  rw [h]
  generalize g_fill n c tb ro = R
  refine Ev.to 999 (L1 := [_, some (.inl (nI q)), _, _, _]) rfl ?_
  refine Ev.ff (by
    show ¬ nI q = -1
    intro z
    have : (nI q).toInt = (-1 : Int32).toInt := by rw [z]
    rw [nI_toInt (by omega)] at this
    have e2 : (-1 : Int32).toInt = -1 := rfl
    omega) ?_
  refine Ev.to 27 (L1 := [_, _, _, _, _]) (st1 := []) rfl ?_
  refine Ev.loop (fun s => [some (.inr 0), some (.inl (nI q)), some (.inl (fd (g_pl R (fun s => g_mis tl se on (nI s)) (R q)) 0 s)), some (.inl (nI s)), none]) (fun _ => (cw n c tb tn tl se on dd ch (R) ot ow tr tu ld lc cc br bw)) (fun _ => True) 0 (2 ^ n) (Nat.zero_le _) trivial (fun s _ hs _ kk => ?_) (fun _ => ?_)
  · have kk := kk trivial
    rw [nI_succ s, fd, g_pl] at kk
    generalize fd (g_pl R (fun s => g_mis tl se on (nI s)) (R q)) 0 s = a at kk ⊢
    refine Ev.to 999 rfl ?_
    refine Ev.callV rfl rfl (e_states hn) ?_
    refine Ev.to 999 rfl ?_
    refine Ev.ff (nI_ng hs (by omega)) ?_
    refine Ev.to 999 rfl ?_
    refine Ev.callV (rest := []) rfl rfl (e_missedBy ht _) ?_
    generalize g_mis tl se on (nI s) = M at kk ⊢
    refine Ev.to 999 (L1 := [_, _, _, _, _]) rfl ?_
    refine Ev.if_ (fun h => ?_) (fun h => ?_)
    · rw [if_neg (fun z => i32_nlt.mpr h z.1)] at kk
      exact Ev.to 27 (L1 := [_, _, _, _, _]) rfl (Ev.fg kk (le_cc (le_cc (le_cc (le_cc (le_nc le_nil))))))
    · have h := i32_nle.mp h
      refine Ev.to 999 rfl ?_
      refine Ev.ald rfl rfl (by omega) (by decide) ?_
      refine Ev.to 999 rfl ?_
      refine Ev.ald rfl rfl (by omega) (by decide) ?_
      refine Ev.to 999 rfl ?_
      refine Ev.if_ (fun h2 => ?_) (fun h2 => ?_)
      · rw [if_neg (fun z => i32_nlt.mpr z.2 h2)] at kk
        exact Ev.to 27 (L1 := [_, _, _, _, _]) rfl (Ev.fg kk (le_cc (le_cc (le_cc (le_cc (le_nc le_nil))))))
      · rw [if_pos ⟨h, i32_nlt.mp h2⟩] at kk
        refine Ev.to 999 rfl ?_
        refine Ev.ald rfl rfl (by omega) (by decide) ?_
        refine Ev.to 999 rfl ?_
        refine Ev.ald rfl rfl (by omega) (by decide) ?_
        refine Ev.to 999 rfl ?_
        refine Ev.dv rfl (fun z => by rw [z] at h; exact absurd h (by decide)) ?_
        exact Ev.to 27 (L1 := [_, _, _, _, _]) rfl (Ev.fg kk (le_cc (le_cc (le_cc (le_cc (le_nc le_nil))))))
  · refine Ev.to 999 rfl ?_
    refine Ev.callV rfl rfl (e_states hn) ?_
    refine Ev.to 999 rfl ?_
    refine Ev.tt (nI_gg (by omega)) ?_
    refine Ev.to 999 rfl ?_
    refine Ev.callS rfl rfl (j_min _ _ _) ?_
    exact Ev.iret rfl rfl rfl rfl
