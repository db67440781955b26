/-! the reference, the first half -/
def h_os (x : Int32) (i : Nat) (a : Int32) : Int32 := a + bz (bb x i)
def io (x : Int32) : Int32 := fd (h_os x) 0 20
theorem m_ones (x : Int32) (w : ix_W) : Cl m_X5_ones [.inl x] w (some (.inl (io x))) w := by
  rw [io]
  refine Ev.to 4 (L1 := [_, _, _]) (st1 := []) rfl ?_
  refine Ev.loop (fun i => [some (.inl x), some (.inl (fd (h_os x) 0 i)), some (.inl (nI i))]) (fun _ => w) (fun _ => True) 0 20 (by omega) trivial (fun i _ hi _ kk => ?_) (fun _ => ?_)
  · have kk := kk trivial
    rw [nI_succ, fd, h_os, ← bbv (by omega)] at kk
    refine Ev.to 999 rfl ?_
    refine Ev.ff (nI_ng (n := 20) hi (by omega)) ?_
    exact Ev.to 4 (L1 := [_, _, _]) rfl kk
  · generalize fd (h_os x) 0 20 = r
    refine Ev.to 999 (pc1 := 24) rfl ?_
    refine Ev.to 999 rfl ?_
    exact Ev.iret rfl rfl rfl rfl
theorem m_isLetter {n : Nat} {c : Int32} {tb : Nat → Int32} {tl : Nat} {se on : Nat → Int32} {dd : Int32} {ch : Nat → Int32} {fs fo : Int32} {cm : Nat} {ce li ke be : Nat → Int32} (x : Int32) : Cl m_X5_isLetter [.inr 0, .inl x] (mw n c tb tl se on dd ch fs fo cm ce li ke be) (some (.inl (bz (inw x 0 (nI n - 1))))) (mw n c tb tl se on dd ch fs fo cm ce li ke be) := by
  refine Ev.to 999 rfl ?_
  refine Ev.callS rfl rfl (m_in _ _ _ _) ?_
  exact Ev.zret rfl rfl rfl rfl (bz_01 _)
theorem m_isState {n : Nat} {c : Int32} {tb : Nat → Int32} {tl : Nat} {se on : Nat → Int32} {dd : Int32} {ch : Nat → Int32} {fs fo : Int32} {cm : Nat} {ce li ke be : Nat → Int32} (hn : n ≤ 8) (x : Int32) : Cl m_X5_isState [.inr 0, .inl x] (mw n c tb tl se on dd ch fs fo cm ce li ke be) (some (.inl (bz (inw x 0 (nI (2 ^ n) - 1))))) (mw n c tb tl se on dd ch fs fo cm ce li ke be) := by
  rw [← pw_n hn]
  refine Ev.to 999 rfl ?_
  refine Ev.callS rfl rfl (m_in _ _ _ _) ?_
  exact Ev.zret rfl rfl rfl rfl (bz_01 _)
theorem m_letters_no {n : Nat} {c : Int32} {tb : Nat → Int32} {tl : Nat} {se on : Nat → Int32} {dd : Int32} {ch : Nat → Int32} {fs fo : Int32} {cm : Nat} {ce li ke be : Nat → Int32} {x : Int32} (h : inw x 1 8 = false) : Cl m_X5_letters [.inr 0, .inl x] (mw n c tb tl se on dd ch fs fo cm ce li ke be) (some (.inl (-2))) (mw n c tb tl se on dd ch fs fo cm ce li ke be) := by
  refine Ev.to 999 rfl ?_
  refine Ev.callS (rest := []) rfl rfl (m_in _ _ _ _) ?_
  refine Ev.to 999 rfl ?_
  refine Ev.tt (bz_f h) ?_
  refine Ev.to 999 rfl ?_
  exact Ev.iret rfl rfl rfl rfl
theorem m_letters {n : Nat} {c : Int32} {tb : Nat → Int32} {tl : Nat} {se on : Nat → Int32} {dd : Int32} {ch : Nat → Int32} {fs fo : Int32} {cm : Nat} {ce li ke be : Nat → Int32} (m : Nat) (h : inw (nI m) 1 8 = true) : Cl m_X5_letters [.inr 0, .inl (nI m)] (mw n c tb tl se on dd ch fs fo cm ce li ke be) (some (.inl 1)) (mw (m) (0) (fd (fun j f => upd f j 0) tb 64) (0) se on dd (fd (fun j f => upd f j 0) ch 8) fs fo cm ce li ke be) := by
  refine Ev.to 999 rfl ?_
  refine Ev.callS (rest := []) rfl rfl (m_in _ _ _ _) ?_
  refine Ev.to 999 rfl ?_
  refine Ev.ff (by rw [bz_t h]; decide) ?_
  refine Ev.to 30 (L1 := [_, _, _]) (st1 := []) (w1 := (mw (m) (0) tb (0) se on dd ch fs fo cm ce li ke be)) rfl ?_
  refine Ev.loop (fun j => [some (.inr 0), some (.inl (nI m)), some (.inl (nI j))]) (fun j => (mw (m) (0) (fd (fun j f => upd f j 0) tb j) (0) se on dd ch fs fo cm ce li ke be)) (fun _ => True) 0 64 (by omega) trivial (fun j _ hj _ kk => ?_) (fun _ => ?_)
  · have kk := kk trivial
    rw [nI_succ, fd] at kk
    refine Ev.to 999 rfl ?_
    refine Ev.ff (nI_ng (n := 64) hj (by omega)) ?_
    refine Ev.to 999 rfl ?_
    refine Ev.ast rfl rfl hj (by decide) ?_
    exact Ev.to 30 (L1 := [_, _, _]) rfl kk
  · generalize fd (fun j f => upd f j 0) tb 64 = T
    refine Ev.to 999 (pc1 := 49) rfl ?_
    refine Ev.to 51 (L1 := [_, _, _]) (st1 := []) rfl ?_
    refine Ev.loop (fun j => [some (.inr 0), some (.inl (nI m)), some (.inl (nI j))]) (fun j => (mw (m) (0) (T) (0) se on dd (fd (fun j f => upd f j 0) ch j) fs fo cm ce li ke be)) (fun _ => True) 0 8 (by omega) trivial (fun j _ hj _ kk => ?_) (fun _ => ?_)
    · have kk := kk trivial
      rw [nI_succ, fd] at kk
      refine Ev.to 999 rfl ?_
      refine Ev.ff (nI_ng (n := 8) hj (by omega)) ?_
      refine Ev.to 999 rfl ?_
      refine Ev.ast rfl rfl hj (by decide) ?_
      exact Ev.to 51 (L1 := [_, _, _]) rfl kk
    · refine Ev.to 999 (pc1 := 70) rfl ?_
      refine Ev.to 999 rfl ?_
      exact Ev.iret rfl rfl rfl rfl
theorem m_putWeight {n : Nat} {c : Int32} {tb : Nat → Int32} {tl : Nat} {se on : Nat → Int32} {dd : Int32} {ch : Nat → Int32} {fs fo : Int32} {cm : Nat} {ce li ke be : Nat → Int32} {i j : Nat} (hi : i < 8) (hj : j < 8) (x : Int32) : Cl m_X5_putWeight [.inr 0, .inl (nI i), .inl (nI j), .inl x] (mw n c tb tl se on dd ch fs fo cm ce li ke be) none (mw n c (upd (upd tb (8 * i + j) x) (8 * j + i) x) tl se on dd ch fs fo cm ce li ke be) := by
  refine Ev.to 999 rfl ?_
  refine Ev.astE (8 * i + j) (ni8' i j) rfl rfl (by omega) (by decide) ?_
  refine Ev.to 999 rfl ?_
  refine Ev.astE (8 * j + i) (ni8' j i) rfl rfl (by omega) (by decide) ?_
  exact Ev.vret rfl rfl rfl
theorem m_weigh_no {n : Nat} {c : Int32} {tb : Nat → Int32} {tl : Nat} {se on : Nat → Int32} {dd : Int32} {ch : Nat → Int32} {fs fo : Int32} {cm : Nat} {ce li ke be : Nat → Int32} {i j x : Int32} (h : inw i 0 (nI n - 1) = false ∨ inw j 0 (nI n - 1) = false ∨ inw x (-60) 60 = false) : Cl m_X5_weigh [.inr 0, .inl i, .inl j, .inl x] (mw n c tb tl se on dd ch fs fo cm ce li ke be) (some (.inl (-2147483648))) (mw n c tb tl se on dd ch fs fo cm ce li ke be) := by
  have no : Ev m_X5_weigh 27 [some (.inr 0), some (.inl i), some (.inl j), some (.inl x), none] [] (mw n c tb tl se on dd ch fs fo cm ce li ke be) (some (.inl (-2147483648)), (mw n c tb tl se on dd ch fs fo cm ce li ke be)) := by
    refine Ev.to 999 rfl ?_
    exact Ev.iret rfl rfl rfl rfl
  refine Ev.to 999 rfl ?_
  refine Ev.callV (rest := []) rfl rfl (m_isLetter _) ?_
  refine Ev.to 999 rfl ?_
  refine Ev.on (fun _ => no) (fun h1 => ?_)
  refine Ev.to 999 rfl ?_
  refine Ev.callV (rest := []) rfl rfl (m_isLetter _) ?_
  refine Ev.to 999 rfl ?_
  refine Ev.on (fun _ => no) (fun h2 => ?_)
  refine Ev.to 999 rfl ?_
  refine Ev.callS (rest := []) rfl rfl (m_in _ _ _ _) ?_
  refine Ev.to 999 rfl ?_
  refine Ev.on (fun _ => no) (fun h3 => ?_)
  rw [h1, h2, h3] at h
  exact absurd h (by decide)
theorem m_weigh {n : Nat} {c : Int32} {tb : Nat → Int32} {tl : Nat} {se on : Nat → Int32} {dd : Int32} {ch : Nat → Int32} {fs fo : Int32} {cm : Nat} {ce li ke be : Nat → Int32} {a b : Nat} {x : Int32} (ha : a < 8) (hb : b < 8) (h1 : inw (nI a) 0 (nI n - 1) = true) (h2 : inw (nI b) 0 (nI n - 1) = true) (h3 : inw x (-60) 60 = true) : Cl m_X5_weigh [.inr 0, .inl (nI a), .inl (nI b), .inl x] (mw n c tb tl se on dd ch fs fo cm ce li ke be) (some (.inl (tb (8 * a + b)))) (mw n c (upd (upd tb (8 * a + b) x) (8 * b + a) x) tl se on dd ch fs fo cm ce li ke be) := by
  refine Ev.to 999 rfl ?_
  refine Ev.callV (rest := []) rfl rfl (m_isLetter _) ?_
  refine Ev.to 999 rfl ?_
  refine Ev.ff (by rw [bz_t h1]; decide) ?_
  refine Ev.to 999 rfl ?_
  refine Ev.callV (rest := []) rfl rfl (m_isLetter _) ?_
  refine Ev.to 999 rfl ?_
  refine Ev.ff (by rw [bz_t h2]; decide) ?_
  refine Ev.to 999 rfl ?_
  refine Ev.callS (rest := []) rfl rfl (m_in _ _ _ _) ?_
  refine Ev.to 999 rfl ?_
  refine Ev.ff (by rw [bz_t h3]; decide) ?_
  refine Ev.to 999 rfl ?_
  refine Ev.aldE (8 * a + b) (ni8' a b) rfl rfl (by omega) (by decide) ?_
  refine Ev.to 999 (L1 := [_, _, _, _, _]) rfl ?_
  refine Ev.callV (rest := []) rfl rfl (m_putWeight ha hb _) ?_
  refine Ev.to 999 rfl ?_
  exact Ev.iret rfl rfl rfl rfl
theorem m_weight_no {n : Nat} {c : Int32} {tb : Nat → Int32} {tl : Nat} {se on : Nat → Int32} {dd : Int32} {ch : Nat → Int32} {fs fo : Int32} {cm : Nat} {ce li ke be : Nat → Int32} {i j : Int32} (h : inw i 0 (nI n - 1) = false ∨ inw j 0 (nI n - 1) = false) : Cl m_X5_weight [.inr 0, .inl i, .inl j] (mw n c tb tl se on dd ch fs fo cm ce li ke be) (some (.inl (-2147483648))) (mw n c tb tl se on dd ch fs fo cm ce li ke be) := by
  have no : Ev m_X5_weight 30 [some (.inr 0), some (.inl i), some (.inl j)] [] (mw n c tb tl se on dd ch fs fo cm ce li ke be) (some (.inl (-2147483648)), (mw n c tb tl se on dd ch fs fo cm ce li ke be)) := by
    refine Ev.to 999 rfl ?_
    exact Ev.iret rfl rfl rfl rfl
  refine Ev.to 999 rfl ?_
  refine Ev.callV (rest := []) rfl rfl (m_isLetter _) ?_
  refine Ev.to 999 rfl ?_
  refine Ev.on (fun _ => no) (fun h1 => ?_)
  refine Ev.to 999 rfl ?_
  refine Ev.callV (rest := []) rfl rfl (m_isLetter _) ?_
  refine Ev.to 999 rfl ?_
  refine Ev.on (fun _ => no) (fun h2 => ?_)
  rw [h1, h2] at h
  exact absurd h (by decide)
theorem m_weight {n : Nat} {c : Int32} {tb : Nat → Int32} {tl : Nat} {se on : Nat → Int32} {dd : Int32} {ch : Nat → Int32} {fs fo : Int32} {cm : Nat} {ce li ke be : Nat → Int32} {a b : Nat} (ha : a < 8) (hb : b < 8) (h1 : inw (nI a) 0 (nI n - 1) = true) (h2 : inw (nI b) 0 (nI n - 1) = true) : Cl m_X5_weight [.inr 0, .inl (nI a), .inl (nI b)] (mw n c tb tl se on dd ch fs fo cm ce li ke be) (some (.inl (tb (8 * a + b)))) (mw n c tb tl se on dd ch fs fo cm ce li ke be) := by
  refine Ev.to 999 rfl ?_
  refine Ev.callV (rest := []) rfl rfl (m_isLetter _) ?_
  refine Ev.to 999 rfl ?_
  refine Ev.ff (by rw [bz_t h1]; decide) ?_
  refine Ev.to 999 rfl ?_
  refine Ev.callV (rest := []) rfl rfl (m_isLetter _) ?_
  refine Ev.to 999 rfl ?_
  refine Ev.ff (by rw [bz_t h2]; decide) ?_
  refine Ev.to 999 rfl ?_
  refine Ev.aldE (8 * a + b) (ni8' a b) rfl rfl (by omega) (by decide) ?_
  refine Ev.to 999 rfl ?_
  exact Ev.iret rfl rfl rfl rfl
def h_ev (tb : Nat → Int32) (s : Int32) (i j : Nat) : Int32 := if bb s i = true ∧ bb s j = true then tb (8 * i + j) else 0
def h_ei (tb : Nat → Int32) (s : Int32) (i j : Nat) (a : Int32) : Int32 := a + h_ev tb s i j
def h_er (tb : Nat → Int32) (s : Int32) (i : Nat) (a : Int32) : Int32 := fd (h_ei tb s i) a (i + 1)
def h_en (n : Nat) (c : Int32) (tb : Nat → Int32) (s : Int32) : Int32 := fd (h_er tb s) c n
theorem m_energyOf {n : Nat} {c : Int32} {tb : Nat → Int32} {tl : Nat} {se on : Nat → Int32} {dd : Int32} {ch : Nat → Int32} {fs fo : Int32} {cm : Nat} {ce li ke be : Nat → Int32} (hn : n ≤ 8) (s : Int32) : Cl m_X5_energyOf [.inr 0, .inl s] (mw n c tb tl se on dd ch fs fo cm ce li ke be) (some (.inl (h_en n c tb s))) (mw n c tb tl se on dd ch fs fo cm ce li ke be) := by
  refine Ev.to 7 (L1 := [_, _, _, _, _]) (st1 := []) rfl ?_
  refine Ev.loop (fun i => [some (.inr 0), some (.inl s), some (.inl (fd (h_er tb s) c i)), some (.inl (nI i)), none]) (fun _ => (mw n c tb tl se on dd ch fs fo cm ce li ke be)) (fun _ => True) 0 n (Nat.zero_le n) trivial (fun i _ hi _ kk => ?_) (fun _ => ?_)
  · have kk := kk trivial
    rw [nI_succ, fd, h_er] at kk
    refine Ev.to 999 rfl ?_
    refine Ev.ff (nI_ng hi (by omega)) ?_
    generalize fd (h_er tb s) c i = a0 at kk ⊢
    refine Ev.to 18 (L1 := [_, _, _, _, _]) (st1 := []) rfl ?_
    refine Ev.loop (fun j => [some (.inr 0), some (.inl s), some (.inl (fd (h_ei tb s i) a0 j)), some (.inl (nI i)), some (.inl (nI j))]) (fun _ => (mw n c tb tl se on dd ch fs fo cm ce li ke be)) (fun _ => True) 0 (i + 1) (Nat.zero_le _) trivial (fun j _ hj _ k2 => ?_) (fun _ => ?_)
    · have k2 := k2 trivial
      rw [nI_succ, fd, h_ei] at k2
      generalize fd (h_ei tb s i) a0 j = a at k2 ⊢
      have J : ∀ v, h_ev tb s i j = v → Ev m_X5_energyOf 60 [some (.inr 0), some (.inl s), some (.inl a), some (.inl (nI i)), some (.inl (nI j))] [.inl v, .inl a] (mw n c tb tl se on dd ch fs fo cm ce li ke be) (some (.inl (h_en n c tb s)), (mw n c tb tl se on dd ch fs fo cm ce li ke be)) := by
        intro v hv
        rw [hv] at k2
        exact Ev.to 18 (L1 := [_, _, _, _, _]) rfl k2
      refine Ev.to 999 rfl ?_
      refine Ev.ff (nI_ngt (by omega) (by omega)) ?_
      refine Ev.to 999 rfl ?_
      refine Ev.if_ (fun h => ?_) (fun h => ?_)
      · have h := (bb1 (by omega)).mp h
        refine Ev.to 999 rfl ?_
        refine Ev.if_ (fun h2 => ?_) (fun h2 => ?_)
        · have h2 := (bb1 (by omega)).mp h2
          refine Ev.to 999 rfl ?_
          refine Ev.aldE (8 * i + j) (ni8' i j) rfl rfl (by omega) (by decide) ?_
          exact Ev.to 60 rfl (J _ (by rw [h_ev, if_pos ⟨h, h2⟩]))
        · refine Ev.to 60 rfl (J _ ?_)
          rw [h_ev, if_neg (fun q => h2 ((bb1 (by omega)).mpr q.2))]
      · refine Ev.to 60 rfl (J _ ?_)
        rw [h_ev, if_neg (fun q => h ((bb1 (by omega)).mpr q.1))]
    · refine Ev.to 999 rfl ?_
      refine Ev.tt (nI_gt1 (by omega)) ?_
      exact Ev.to 7 (L1 := [_, _, _, _, _]) rfl (Ev.fg kk (le_cc (le_cc (le_cc (le_cc (le_nc le_nil))))))
  · refine Ev.to 999 rfl ?_
    refine Ev.tt (nI_gg (by omega)) ?_
    refine Ev.to 999 rfl ?_
    exact Ev.iret rfl rfl rfl rfl
theorem m_energy {n : Nat} {c : Int32} {tb : Nat → Int32} {tl : Nat} {se on : Nat → Int32} {dd : Int32} {ch : Nat → Int32} {fs fo : Int32} {cm : Nat} {ce li ke be : Nat → Int32} (hn : n ≤ 8) (s : Int32) : Cl m_X5_energy [.inr 0, .inl s] (mw n c tb tl se on dd ch fs fo cm ce li ke be) (some (.inl (if inw s 0 (nI (2 ^ n) - 1) = true then h_en n c tb s else -2147483648))) (mw n c tb tl se on dd ch fs fo cm ce li ke be) := by
  refine Ev.to 999 rfl ?_
  refine Ev.callV (rest := []) rfl rfl (m_isState hn _) ?_
  refine Ev.to 999 rfl ?_
  refine Ev.on (fun h => ?_) (fun h => ?_)
  · rw [if_neg (by rw [h]; decide)]
    refine Ev.to 999 rfl ?_
    exact Ev.iret rfl rfl rfl rfl
  · rw [if_pos h]
    refine Ev.to 999 rfl ?_
    refine Ev.callV (rest := []) rfl rfl (m_energyOf hn _) ?_
    refine Ev.to 999 rfl ?_
    exact Ev.iret rfl rfl rfl rfl
def h_lok (n : Nat) (s k : Int32) : Bool := inw s 1 (nI (2 ^ n) - 1) && inw k 0 (io s)
theorem m_law_no {n : Nat} {c : Int32} {tb : Nat → Int32} {tl : Nat} {se on : Nat → Int32} {dd : Int32} {ch : Nat → Int32} {fs fo : Int32} {cm : Nat} {ce li ke be : Nat → Int32} (hn : n ≤ 8) {s k : Int32} (h : h_lok n s k = false) : Cl m_X5_law [.inr 0, .inl s, .inl k] (mw n c tb tl se on dd ch fs fo cm ce li ke be) (some (.inl (-2))) (mw n c tb tl se on dd ch fs fo cm ce li ke be) := by
  have no : Ev m_X5_law 28 [some (.inr 0), some (.inl s), some (.inl k)] [] (mw n c tb tl se on dd ch fs fo cm ce li ke be) (some (.inl (-2)), (mw n c tb tl se on dd ch fs fo cm ce li ke be)) := by
    refine Ev.to 999 rfl ?_
    exact Ev.iret rfl rfl rfl rfl
  rw [h_lok, ← pw_n hn] at h
  refine Ev.to 999 rfl ?_
  refine Ev.callS (rest := []) rfl rfl (m_in _ _ _ _) ?_
  refine Ev.to 999 rfl ?_
  refine Ev.on (fun _ => no) (fun h1 => ?_)
  refine Ev.to 999 rfl ?_
  refine Ev.callS rfl rfl (m_ones _ _) ?_
  refine Ev.callS (rest := []) rfl rfl (m_in _ _ _ _) ?_
  refine Ev.to 999 rfl ?_
  refine Ev.on (fun _ => no) (fun h3 => ?_)
  rw [show inw s 1 ((1 : Int32) <<< (nI n &&& 31) - 1) = true from h1, h3] at h
  exact absurd h (by decide)
theorem m_law_go {n : Nat} {c : Int32} {tb : Nat → Int32} {tl : Nat} {se on : Nat → Int32} {dd : Int32} {ch : Nat → Int32} {fs fo : Int32} {cm : Nat} {ce li ke be : Nat → Int32} (hn : n ≤ 8) {s k : Int32} (h : h_lok n s k = true) {x : Option ix_V × ix_W} (kk : Ev m_X5_law 31 [some (.inr 0), some (.inl s), some (.inl k)] [] (mw n c tb tl se on dd ch fs fo cm ce li ke be) x) : Ev m_X5_law 0 (ix_en m_X5_law [.inr 0, .inl s, .inl k]) [] (mw n c tb tl se on dd ch fs fo cm ce li ke be) x := by
  rw [h_lok, ← pw_n hn, Bool.and_eq_true] at h
  refine Ev.to 999 rfl ?_
  refine Ev.callS (rest := []) rfl rfl (m_in _ _ _ _) ?_
  refine Ev.to 999 rfl ?_
  refine Ev.ff (fun z => by
    have z2 : bz (inw s 1 ((1 : Int32) <<< (nI n &&& 31) - 1)) = 0 := z
    rw [bz_t h.1] at z2
    exact absurd z2 (by decide)) ?_
  refine Ev.to 999 rfl ?_
  refine Ev.callS rfl rfl (m_ones _ _) ?_
  refine Ev.callS (rest := []) rfl rfl (m_in _ _ _ _) ?_
  refine Ev.to 999 rfl ?_
  refine Ev.ff (by rw [bz_t h.2]; decide) ?_
  exact kk
theorem m_law_full {n : Nat} {c : Int32} {tb : Nat → Int32} {tl : Nat} {se on : Nat → Int32} {dd : Int32} {ch : Nat → Int32} {fs fo : Int32} {cm : Nat} {ce li ke be : Nat → Int32} (hn : n ≤ 8) {s k : Int32} (h : h_lok n s k = true) (ht : tl = 6) : Cl m_X5_law [.inr 0, .inl s, .inl k] (mw n c tb tl se on dd ch fs fo cm ce li ke be) (some (.inl (-4))) (mw n c tb tl se on dd ch fs fo cm ce li ke be) := by
  subst ht
  refine m_law_go hn h ?_
  refine Ev.to 999 (pc1 := 40) rfl ?_
  refine Ev.to 999 rfl ?_
  exact Ev.iret rfl rfl rfl rfl
theorem m_law {n : Nat} {c : Int32} {tb : Nat → Int32} {tl : Nat} {se on : Nat → Int32} {dd : Int32} {ch : Nat → Int32} {fs fo : Int32} {cm : Nat} {ce li ke be : Nat → Int32} (hn : n ≤ 8) {s k : Int32} (h : h_lok n s k = true) (ht : tl < 6) : Cl m_X5_law [.inr 0, .inl s, .inl k] (mw n c tb tl se on dd ch fs fo cm ce li ke be) (some (.inl (nI tl))) (mw n c tb (tl + 1) (upd se tl s) (upd on tl k) dd ch fs fo cm ce li ke be) := by
  refine m_law_go hn h ?_
  refine Ev.to 999 rfl ?_
  refine Ev.ff (fun z => by have := (nI_eq (b := 6) (by omega) (by omega)).mp z; omega) ?_
  refine Ev.to 999 rfl ?_
  refine Ev.ast rfl rfl ht (by decide) ?_
  refine Ev.to 999 rfl ?_
  refine Ev.ast rfl rfl ht (by decide) ?_
  have e : (mw n c tb (tl + 1) (upd se tl s) (upd on tl k) dd ch fs fo cm ce li ke be) = List.set (mw n c tb tl (upd se tl s) (upd on tl k) dd ch fs fo cm ce li ke be) 0 (.inr (5, [.inl (nI n), .inl c, .inr 1, .inl (nI tl + 1), .inr 2, .inr 3, .inl dd, .inr 4, .inl fs, .inl fo, .inl (nI cm), .inr 5, .inr 6, .inr 7, .inr 8])) := by rw [← nI_succ]; rfl
  rw [e]
  refine Ev.to 999 rfl ?_
  refine Ev.iret rfl rfl ?_ rfl
  show Sum.inl (nI tl + 1 - 1) = _
  rw [← nI_succ, nI_pred]
theorem m_unlaw_no {n : Nat} {c : Int32} {tb : Nat → Int32} {tl : Nat} {se on : Nat → Int32} {dd : Int32} {ch : Nat → Int32} {fs fo : Int32} {cm : Nat} {ce li ke be : Nat → Int32} (h : tl = 0) : Cl m_X5_unlaw [.inr 0] (mw n c tb tl se on dd ch fs fo cm ce li ke be) (some (.inl (-3))) (mw n c tb tl se on dd ch fs fo cm ce li ke be) := by
  subst h
  refine Ev.to 999 (pc1 := 7) rfl ?_
  refine Ev.to 999 rfl ?_
  exact Ev.iret rfl rfl rfl rfl
theorem m_unlaw {n : Nat} {c : Int32} {tb : Nat → Int32} {tl : Nat} {se on : Nat → Int32} {dd : Int32} {ch : Nat → Int32} {fs fo : Int32} {cm : Nat} {ce li ke be : Nat → Int32} (h : tl < 6) : Cl m_X5_unlaw [.inr 0] (mw n c tb (tl + 1) se on dd ch fs fo cm ce li ke be) (some (.inl (nI tl))) (mw n c tb tl se on dd ch fs fo cm ce li ke be) := by
  refine Ev.to 999 rfl ?_
  refine Ev.ff (nI_ne0 (by omega) (by omega)) ?_
  have e : (mw n c tb tl se on dd ch fs fo cm ce li ke be) = List.set (mw n c tb (tl + 1) se on dd ch fs fo cm ce li ke be) 0 (.inr (5, [.inl (nI n), .inl c, .inr 1, .inl (nI (tl + 1) - 1), .inr 2, .inr 3, .inl dd, .inr 4, .inl fs, .inl fo, .inl (nI cm), .inr 5, .inr 6, .inr 7, .inr 8])) := by rw [nI_pred]; rfl
  rw [e]
  refine Ev.to 999 rfl ?_
  exact Ev.iret rfl rfl (congrArg Sum.inl (nI_pred tl)) rfl
def h_ms (se on : Nat → Int32) (s : Int32) (l : Nat) (a : Int32) : Int32 := a + (io (s &&& se l) - on l) * (io (s &&& se l) - on l)
def h_mis (tl : Nat) (se on : Nat → Int32) (s : Int32) : Int32 := fd (h_ms se on s) 0 tl
theorem m_missed {n : Nat} {c : Int32} {tb : Nat → Int32} {tl : Nat} {se on : Nat → Int32} {dd : Int32} {ch : Nat → Int32} {fs fo : Int32} {cm : Nat} {ce li ke be : Nat → Int32} (ht : tl ≤ 6) (s : Int32) : Cl m_X5_missed [.inr 0, .inl s] (mw n c tb tl se on dd ch fs fo cm ce li ke be) (some (.inl (h_mis tl se on s))) (mw n c tb tl se on dd ch fs fo cm ce li ke be) := by
  refine Ev.to 4 (L1 := [_, _, _, _, _]) (st1 := []) rfl ?_
  refine Ev.loop (fun l => [some (.inr 0), some (.inl s), some (.inl (fd (h_ms se on s) 0 l)), some (.inl (nI l)), none]) (fun _ => (mw n c tb tl se on dd ch fs fo cm ce li ke be)) (fun _ => True) 0 tl (Nat.zero_le tl) trivial (fun l _ hl _ kk => ?_) (fun _ => ?_)
  · have kk := kk trivial
    rw [nI_succ, fd, h_ms] at kk
    refine Ev.to 999 rfl ?_
    refine Ev.ff (nI_ng hl (by omega)) ?_
    refine Ev.to 999 rfl ?_
    refine Ev.ald rfl rfl (by omega) (by decide) ?_
    refine Ev.to 999 rfl ?_
    refine Ev.callS rfl rfl (m_ones _ _) ?_
    refine Ev.to 999 rfl ?_
    refine Ev.ald rfl rfl (by omega) (by decide) ?_
    exact Ev.to 4 (L1 := [_, _, _, _, _]) rfl (Ev.fg kk (le_cc (le_cc (le_cc (le_cc (le_nc le_nil))))))
  · refine Ev.to 999 rfl ?_
    refine Ev.tt (nI_gg (by omega)) ?_
    refine Ev.to 999 rfl ?_
    exact Ev.iret rfl rfl rfl rfl
def h_wd (n : Nat) (c : Int32) (tb : Nat → Int32) (tl : Nat) (se on : Nat → Int32) (p : Int32) (s : Nat) : Int32 := h_en n c tb (nI s) + p * h_mis tl se on (nI s)
theorem m_weighed {n : Nat} {c : Int32} {tb : Nat → Int32} {tl : Nat} {se on : Nat → Int32} {dd : Int32} {ch : Nat → Int32} {fs fo : Int32} {cm : Nat} {ce li ke be : Nat → Int32} (hn : n ≤ 8) (ht : tl ≤ 6) (s : Nat) (p : Int32) : Cl m_X5_weighed [.inr 0, .inl (nI s), .inl p] (mw n c tb tl se on dd ch fs fo cm ce li ke be) (some (.inl (h_wd n c tb tl se on p s))) (mw n c tb tl se on dd ch fs fo cm ce li ke be) := by
  refine Ev.to 999 rfl ?_
  refine Ev.callV rfl rfl (m_energyOf hn _) ?_
  refine Ev.to 999 rfl ?_
  refine Ev.callV rfl rfl (m_missed ht _) ?_
  refine Ev.to 999 rfl ?_
  exact Ev.iret rfl rfl rfl rfl
/-- the bound of a going through all states -/
theorem m_pw {n : Nat} (hn : n ≤ 8) {s : Nat} (hs : s < 2 ^ n) : ¬ (1 : Int32) <<< (nI n &&& 31) ≤ nI s := by
  rw [pw_n hn]; exact nI_ng hs (by have := (pw_le hn).1; omega)
theorem m_pw' {n : Nat} (hn : n ≤ 8) : (1 : Int32) <<< (nI n &&& 31) ≤ nI (2 ^ n) := by
  rw [pw_n hn]; exact nI_gg (by have := (pw_le hn).1; omega)
theorem m_leastBy {n : Nat} {c : Int32} {tb : Nat → Int32} {tl : Nat} {se on : Nat → Int32} {dd : Int32} {ch : Nat → Int32} {fs fo : Int32} {cm : Nat} {ce li ke be : Nat → Int32} (hn : n ≤ 8) (ht : tl ≤ 6) (p : Int32) : Cl m_X5_leastBy [.inr 0, .inl p] (mw n c tb tl se on dd ch fs fo cm ce li ke be) (some (.inl (g_low n (h_wd n c tb tl se on p)))) (mw n c tb tl se on dd ch fs fo cm ce li ke be) := by
  obtain ⟨hp1, hp2⟩ := pw_le hn
  rw [g_low]
  refine Ev.to 999 rfl ?_
  refine Ev.callV (rest := []) rfl rfl (m_weighed hn ht 0 _) ?_
  refine Ev.to 9 (L1 := [_, _, _, _, _]) (st1 := []) rfl ?_
  refine Ev.loop (fun t => [some (.inr 0), some (.inl p), some (.inl (fd (g_mn (h_wd n c tb tl se on p)) (h_wd n c tb tl se on p 0) t)), some (.inl (nI (t + 1))), none]) (fun _ => (mw n c tb tl se on dd ch fs fo cm ce li ke be)) (fun _ => True) 0 (2 ^ n - 1) (Nat.zero_le _) trivial (fun t _ ht2 _ kk => ?_) (fun _ => ?_)
  · have kk := kk trivial
    rw [nI_succ (t + 1), fd, g_mn, imin] at kk
    generalize fd (g_mn (h_wd n c tb tl se on p)) (h_wd n c tb tl se on p 0) t = a at kk ⊢
    refine Ev.to 999 rfl ?_
    refine Ev.ff (m_pw hn (by omega)) ?_
    refine Ev.to 999 rfl ?_
    refine Ev.callV (rest := []) rfl rfl (m_weighed hn ht (t + 1) _) ?_
    refine Ev.to 999 (L1 := [_, _, _, _, _]) rfl ?_
    refine Ev.if_ (fun h => ?_) (fun h => ?_)
    · rw [if_neg (i32_nlt.mpr h)] at kk
      exact Ev.to 9 (L1 := [_, _, _, _, _]) rfl (Ev.fg kk (le_cc (le_cc (le_cc (le_cc (le_nc le_nil))))))
    · rw [if_pos (i32_nle.mp h)] at kk
      exact Ev.to 9 (L1 := [_, _, _, _, _]) rfl (Ev.fg kk (le_cc (le_cc (le_cc (le_cc (le_nc le_nil))))))
  · refine Ev.to 999 rfl ?_
    rw [show 2 ^ n - 1 + 1 = 2 ^ n by omega]
    refine Ev.tt (m_pw' hn) ?_
    refine Ev.to 999 rfl ?_
    exact Ev.iret rfl rfl rfl rfl
theorem m_best {n : Nat} {c : Int32} {tb : Nat → Int32} {tl : Nat} {se on : Nat → Int32} {dd : Int32} {ch : Nat → Int32} {fs fo : Int32} {cm : Nat} {ce li ke be : Nat → Int32} (hn : n ≤ 8) (ht : tl ≤ 6) (p : Int32) : Cl m_X5_best [.inr 0, .inl p] (mw n c tb tl se on dd ch fs fo cm ce li ke be) (some (.inl (if inw p 0 1000 = true then g_low n (h_wd n c tb tl se on p) else -2147483648))) (mw n c tb tl se on dd ch fs fo cm ce li ke be) := by
  refine Ev.to 999 rfl ?_
  refine Ev.callS (rest := []) rfl rfl (m_isPull _ _) ?_
  refine Ev.to 999 rfl ?_
  refine Ev.on (fun h => ?_) (fun h => ?_)
  · rw [if_neg (by rw [h]; decide)]
    refine Ev.to 999 rfl ?_
    exact Ev.iret rfl rfl rfl rfl
  · rw [if_pos h]
    refine Ev.to 999 rfl ?_
    refine Ev.callV (rest := []) rfl rfl (m_leastBy hn ht _) ?_
    refine Ev.to 999 rfl ?_
    exact Ev.iret rfl rfl rfl rfl
theorem m_many_no {n : Nat} {c : Int32} {tb : Nat → Int32} {tl : Nat} {se on : Nat → Int32} {dd : Int32} {ch : Nat → Int32} {fs fo : Int32} {cm : Nat} {ce li ke be : Nat → Int32} {p : Int32} (h : inw p 0 1000 = false) : Cl m_X5_many [.inr 0, .inl p] (mw n c tb tl se on dd ch fs fo cm ce li ke be) (some (.inl (-2))) (mw n c tb tl se on dd ch fs fo cm ce li ke be) := by
  refine Ev.to 999 rfl ?_
  refine Ev.callS (rest := []) rfl rfl (m_isPull _ _) ?_
  refine Ev.to 999 rfl ?_
  refine Ev.tt (bz_f h) ?_
  refine Ev.to 999 rfl ?_
  exact Ev.iret rfl rfl rfl rfl
def h_ct (V : Nat → Int32) (m : Int32) (s : Nat) (a : Int32) : Int32 := a + (if V s = m then 1 else 0)
theorem m_many {n : Nat} {c : Int32} {tb : Nat → Int32} {tl : Nat} {se on : Nat → Int32} {dd : Int32} {ch : Nat → Int32} {fs fo : Int32} {cm : Nat} {ce li ke be : Nat → Int32} (hn : n ≤ 8) (ht : tl ≤ 6) {p : Int32} (h : inw p 0 1000 = true) : Cl m_X5_many [.inr 0, .inl p] (mw n c tb tl se on dd ch fs fo cm ce li ke be) (some (.inl (fd (h_ct (h_wd n c tb tl se on p) (g_low n (h_wd n c tb tl se on p))) 0 (2 ^ n)))) (mw n c tb tl se on dd ch fs fo cm ce li ke be) := by
  obtain ⟨hp1, hp2⟩ := pw_le hn
  refine Ev.to 999 rfl ?_
  refine Ev.callS (rest := []) rfl rfl (m_isPull _ _) ?_
  refine Ev.to 999 rfl ?_
  refine Ev.ff (by rw [bz_t h]; decide) ?_
  refine Ev.to 999 rfl ?_
  refine Ev.callV (rest := []) rfl rfl (m_leastBy hn ht _) ?_
  generalize g_low n (h_wd n c tb tl se on p) = m
  refine Ev.to 21 (L1 := [_, _, _, _, _]) (st1 := []) rfl ?_
  refine Ev.loop (fun s => [some (.inr 0), some (.inl p), some (.inl m), some (.inl (fd (h_ct (h_wd n c tb tl se on p) m) 0 s)), some (.inl (nI s))]) (fun _ => (mw n c tb tl se on dd ch fs fo cm ce li ke be)) (fun _ => True) 0 (2 ^ n) (Nat.zero_le _) trivial (fun s _ hs _ kk => ?_) (fun _ => ?_)
  · have kk := kk trivial
    rw [nI_succ s, fd, h_ct] at kk
    refine Ev.to 999 rfl ?_
    refine Ev.ff (m_pw hn hs) ?_
    refine Ev.to 999 rfl ?_
    refine Ev.callV (rest := [_]) rfl rfl (m_weighed hn ht s _) ?_
    refine Ev.to 999 rfl ?_
    refine Ev.if_ (fun h => ?_) (fun h => ?_)
    · rw [if_pos h] at kk
      exact Ev.to 21 (L1 := [_, _, _, _, _]) rfl kk
    · rw [if_neg h] at kk
      exact Ev.to 21 (L1 := [_, _, _, _, _]) rfl kk
  · refine Ev.to 999 rfl ?_
    refine Ev.tt (m_pw' hn) ?_
    refine Ev.to 999 rfl ?_
    exact Ev.iret rfl rfl rfl rfl
theorem m_bestAt_no {n : Nat} {c : Int32} {tb : Nat → Int32} {tl : Nat} {se on : Nat → Int32} {dd : Int32} {ch : Nat → Int32} {fs fo : Int32} {cm : Nat} {ce li ke be : Nat → Int32} {p k : Int32} (h : inw p 0 1000 = false ∨ ¬ 0 ≤ k) : Cl m_X5_bestAt [.inr 0, .inl p, .inl k] (mw n c tb tl se on dd ch fs fo cm ce li ke be) (some (.inl (-2))) (mw n c tb tl se on dd ch fs fo cm ce li ke be) := by
  have no : Ev m_X5_bestAt 11 [some (.inr 0), some (.inl p), some (.inl k), none, none, none] [] (mw n c tb tl se on dd ch fs fo cm ce li ke be) (some (.inl (-2)), (mw n c tb tl se on dd ch fs fo cm ce li ke be)) := by
    refine Ev.to 999 rfl ?_
    exact Ev.iret rfl rfl rfl rfl
  refine Ev.to 999 rfl ?_
  refine Ev.callS (rest := []) rfl rfl (m_isPull _ _) ?_
  refine Ev.to 999 rfl ?_
  refine Ev.on (fun _ => no) (fun h1 => ?_)
  refine Ev.to 999 rfl ?_
  refine Ev.if_ (fun h2 => ?_) (fun _ => no)
  rcases h with h | h
  · rw [h1] at h; cases h
  · exact absurd h2 h
/-- how many best ones stand ahead of s -/
def h_cn (V : Nat → Int32) (m : Int32) (s : Nat) : Nat := fb_ct (fun s => decide (V s = m)) s
theorem h_cn_s (V : Nat → Int32) (m : Int32) (s : Nat) : h_cn V m (s + 1) = h_cn V m s + (if V s = m then 1 else 0) := by
  rw [h_cn, fb_ct_succ]
  by_cases h : V s = m
  · rw [if_pos h, decide_eq_true h, if_pos rfl]; rfl
  · rw [if_neg h, decide_eq_false h, if_neg (by decide)]; rfl
theorem m_bestAt_go {n : Nat} {c : Int32} {tb : Nat → Int32} {tl : Nat} {se on : Nat → Int32} {dd : Int32} {ch : Nat → Int32} {fs fo : Int32} {cm : Nat} {ce li ke be : Nat → Int32} (hn : n ≤ 8) (ht : tl ≤ 6) {p : Int32} {k N : Nat} (hk : k < 2 ^ 31) (h : inw p 0 1000 = true) (hN : N ≤ 2 ^ n) (hc : h_cn (h_wd n c tb tl se on p) (g_low n (h_wd n c tb tl se on p)) N ≤ k) {x : Option ix_V × ix_W} (kk : Ev m_X5_bestAt 26 [some (.inr 0), some (.inl p), some (.inl (nI k)), some (.inl (g_low n (h_wd n c tb tl se on p))), some (.inl (nI (k - h_cn (h_wd n c tb tl se on p) (g_low n (h_wd n c tb tl se on p)) N))), some (.inl (nI N))] [] (mw n c tb tl se on dd ch fs fo cm ce li ke be) x) : Ev m_X5_bestAt 0 (ix_en m_X5_bestAt [.inr 0, .inl p, .inl (nI k)]) [] (mw n c tb tl se on dd ch fs fo cm ce li ke be) x := by
  obtain ⟨hp1, hp2⟩ := pw_le hn
  refine Ev.to 999 rfl ?_
  refine Ev.callS (rest := []) rfl rfl (m_isPull _ _) ?_
  refine Ev.to 999 rfl ?_
  refine Ev.ff (by rw [bz_t h]; decide) ?_
  refine Ev.to 999 rfl ?_
  refine Ev.tt (nI_pos' hk) ?_
  refine Ev.to 999 rfl ?_
  refine Ev.callV (rest := []) rfl rfl (m_leastBy hn ht _) ?_
  generalize g_low n (h_wd n c tb tl se on p) = m at hc kk ⊢
  refine Ev.to 26 (L1 := [_, _, _, _, _, _]) (st1 := []) rfl ?_
  refine Ev.loop (fun s => [some (.inr 0), some (.inl p), some (.inl (nI k)), some (.inl m), some (.inl (nI (k - h_cn (h_wd n c tb tl se on p) m s))), some (.inl (nI s))]) (fun _ => (mw n c tb tl se on dd ch fs fo cm ce li ke be)) (fun _ => True) 0 N (Nat.zero_le _) trivial (fun s _ hs _ k2 => ?_) (fun _ => kk)
  have k2 := k2 trivial
  have hmono : h_cn (h_wd n c tb tl se on p) m (s + 1) ≤ h_cn (h_wd n c tb tl se on p) m N := fb_ct_mono _ hs
  rw [nI_succ s, h_cn_s] at k2
  rw [h_cn_s] at hmono
  refine Ev.to 999 rfl ?_
  refine Ev.ff (m_pw hn (by omega)) ?_
  refine Ev.to 999 rfl ?_
  refine Ev.callV (rest := []) rfl rfl (m_weighed hn ht s _) ?_
  refine Ev.to 999 rfl ?_
  refine Ev.if_ (fun h => ?_) (fun h => ?_)
  · rw [if_pos h] at k2 hmono
    generalize h_cn (h_wd n c tb tl se on p) m s = q at k2 hmono ⊢
    refine Ev.to 999 rfl ?_
    refine Ev.ff (ne_nat (by omega) (by omega)) ?_
    have e : nI (k - q) + -1 = nI (k - (q + 1)) := by
      rw [show k - q = (k - (q + 1)) + 1 by omega]; exact pk_m1 _
    rw [← e] at k2
    exact Ev.to 26 (L1 := [_, _, _, _, _, _]) rfl k2
  · rw [if_neg h, Nat.add_zero] at k2
    exact Ev.to 26 (L1 := [_, _, _, _, _, _]) rfl k2
theorem m_bestAt {n : Nat} {c : Int32} {tb : Nat → Int32} {tl : Nat} {se on : Nat → Int32} {dd : Int32} {ch : Nat → Int32} {fs fo : Int32} {cm : Nat} {ce li ke be : Nat → Int32} (hn : n ≤ 8) (ht : tl ≤ 6) {p : Int32} {k s : Nat} (hk : k < 2 ^ 31) (h : inw p 0 1000 = true) (hs : s < 2 ^ n) (hv : h_wd n c tb tl se on p s = g_low n (h_wd n c tb tl se on p)) (hc : h_cn (h_wd n c tb tl se on p) (g_low n (h_wd n c tb tl se on p)) s = k) : Cl m_X5_bestAt [.inr 0, .inl p, .inl (nI k)] (mw n c tb tl se on dd ch fs fo cm ce li ke be) (some (.inl (nI s))) (mw n c tb tl se on dd ch fs fo cm ce li ke be) := by
  refine m_bestAt_go hn ht hk h (N := s) (by omega) (by omega) ?_
  rw [hc, Nat.sub_self]
  refine Ev.to 999 rfl ?_
  refine Ev.ff (m_pw hn hs) ?_
  refine Ev.to 999 rfl ?_
  refine Ev.callV (rest := []) rfl rfl (m_weighed hn ht s _) ?_
  refine Ev.to 999 rfl ?_
  refine Ev.tt hv ?_
  refine Ev.to 999 (pc1 := 53) rfl ?_
  refine Ev.to 999 rfl ?_
  exact Ev.iret rfl rfl rfl rfl
theorem m_bestAt_miss {n : Nat} {c : Int32} {tb : Nat → Int32} {tl : Nat} {se on : Nat → Int32} {dd : Int32} {ch : Nat → Int32} {fs fo : Int32} {cm : Nat} {ce li ke be : Nat → Int32} (hn : n ≤ 8) (ht : tl ≤ 6) {p : Int32} {k : Nat} (hk : k < 2 ^ 31) (h : inw p 0 1000 = true) (hc : h_cn (h_wd n c tb tl se on p) (g_low n (h_wd n c tb tl se on p)) (2 ^ n) ≤ k) : Cl m_X5_bestAt [.inr 0, .inl p, .inl (nI k)] (mw n c tb tl se on dd ch fs fo cm ce li ke be) (some (.inl (-2))) (mw n c tb tl se on dd ch fs fo cm ce li ke be) := by
  refine m_bestAt_go hn ht hk h (N := 2 ^ n) (Nat.le_refl _) hc ?_
  refine Ev.to 999 rfl ?_
  refine Ev.tt (m_pw' hn) ?_
  refine Ev.to 999 rfl ?_
  exact Ev.iret rfl rfl rfl rfl
