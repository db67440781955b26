/-! the reference: links, readBack, strong -/
theorem m_linkOf0 {n : Nat} {c : Int32} {tb : Nat → Int32} {tl : Nat} {se on : Nat → Int32} {dd : Int32} {ch : Nat → Int32} {fs fo : Int32} {cm : Nat} {ce li ke be : Nat → Int32} {a b m1 : Nat} (ha : a < 8) (hb : b < 8) (h1 : h_be (ch b) &&& ch a = nI m1) (p1 : 0 < m1) (q1 : m1 < 2 ^ 31) : Cl m_X5_linkOf [.inr 0, .inl (nI a), .inl (nI b), .inl 0] (mw n c tb tl se on dd ch fs fo cm ce li ke be) (some (.inl (nI (lowb m1)))) (mw n c tb tl se on dd ch fs fo cm ce li ke be) := by
  refine Ev.to 999 rfl ?_
  refine Ev.ald rfl rfl hb (by decide) ?_
  refine Ev.callS rfl rfl (m_beside _ _) ?_
  refine Ev.to 999 rfl ?_
  refine Ev.ald rfl rfl ha (by decide) ?_
  refine Ev.to 999 rfl ?_
  refine Ev.callS rfl rfl (Cl.eq (m_firstOf p1 q1 _) (by rw [← h1]; rfl) rfl) ?_
  refine Ev.to 999 (L1 := [_, _, _, _, _]) (pc1 := 25) rfl ?_
  refine Ev.to 999 rfl ?_
  exact Ev.iret rfl rfl rfl rfl
theorem m_linkOf1 {n : Nat} {c : Int32} {tb : Nat → Int32} {tl : Nat} {se on : Nat → Int32} {dd : Int32} {ch : Nat → Int32} {fs fo : Int32} {cm : Nat} {ce li ke be : Nat → Int32} {a b m1 m2 : Nat} {x : Int32} (hx : ¬ x = 0) (ha : a < 8) (hb : b < 8) (h1 : h_be (ch b) &&& ch a = nI m1) (p1 : 0 < m1) (q1 : m1 < 2 ^ 31) (h2 : h_be ((1 : Int32) <<< (nI (lowb m1) &&& 31)) &&& ch b = nI m2) (p2 : 0 < m2) (q2 : m2 < 2 ^ 31) : Cl m_X5_linkOf [.inr 0, .inl (nI a), .inl (nI b), .inl x] (mw n c tb tl se on dd ch fs fo cm ce li ke be) (some (.inl (nI (lowb m2)))) (mw n c tb tl se on dd ch fs fo cm ce li ke be) := by
  refine Ev.to 999 rfl ?_
  refine Ev.ald rfl rfl hb (by decide) ?_
  refine Ev.callS rfl rfl (m_beside _ _) ?_
  refine Ev.to 999 rfl ?_
  refine Ev.ald rfl rfl ha (by decide) ?_
  refine Ev.to 999 rfl ?_
  refine Ev.callS rfl rfl (Cl.eq (m_firstOf p1 q1 _) (by rw [← h1]; rfl) rfl) ?_
  refine Ev.to 999 (L1 := [_, _, _, _, _]) rfl ?_
  refine Ev.ff hx ?_
  refine Ev.to 999 rfl ?_
  refine Ev.callS rfl rfl (m_beside _ _) ?_
  refine Ev.to 999 rfl ?_
  refine Ev.ald rfl rfl hb (by decide) ?_
  refine Ev.to 999 rfl ?_
  refine Ev.callS rfl rfl (Cl.eq (m_firstOf p2 q2 _) (by rw [← h2]; rfl) rfl) ?_
  exact Ev.iret rfl rfl rfl rfl
theorem m_link_bad {n : Nat} {c : Int32} {tb : Nat → Int32} {tl : Nat} {se on : Nat → Int32} {dd : Int32} {ch : Nat → Int32} {fs fo : Int32} {cm : Nat} {ce li ke be : Nat → Int32} {i j x : Int32} (h : inw i 0 (nI n - 1) = false ∨ inw j 0 (nI n - 1) = false ∨ i = j ∨ inw x 0 1 = false) : Cl m_X5_link [.inr 0, .inl i, .inl j, .inl x] (mw n c tb tl se on dd ch fs fo cm ce li ke be) (some (.inl (-2))) (mw n c tb tl se on dd ch fs fo cm ce li ke be) := by
  have no : Ev m_X5_link 30 [some (.inr 0), some (.inl i), some (.inl j), some (.inl x)] [] (mw n c tb tl se on dd ch fs fo cm ce li ke be) (some (.inl (-2)), (mw n c tb tl se on dd ch fs fo cm ce li ke be)) := by
    refine Ev.to 999 rfl ?_
    exact Ev.iret rfl rfl rfl rfl
  refine Ev.to 999 rfl ?_
  refine Ev.callV (rest := []) rfl rfl (m_isLetter _) ?_
  refine Ev.to 999 rfl ?_
  refine Ev.on (fun _ => no) (fun h1 => ?_)
  refine Ev.to 999 rfl ?_
  refine Ev.callV (rest := []) rfl rfl (m_isLetter _) ?_
  refine Ev.to 999 rfl ?_
  refine Ev.on (fun _ => no) (fun h2 => ?_)
  refine Ev.to 999 rfl ?_
  refine Ev.if_ (fun _ => no) (fun h3 => ?_)
  refine Ev.to 999 rfl ?_
  refine Ev.callS (rest := []) rfl rfl (m_in _ _ _ _) ?_
  refine Ev.to 999 rfl ?_
  refine Ev.on (fun _ => no) (fun h4 => ?_)
  rw [h1, h2, h4] at h
  rcases h with h | h | h | h
  · cases h
  · cases h
  · exact absurd h h3
  · cases h
theorem m_link_go {n : Nat} {c : Int32} {tb : Nat → Int32} {tl : Nat} {se on : Nat → Int32} {dd : Int32} {ch : Nat → Int32} {fs fo : Int32} {cm : Nat} {ce li ke be : Nat → Int32} {a b : Nat} {x : Int32} (h1 : inw (nI a) 0 (nI n - 1) = true) (h2 : inw (nI b) 0 (nI n - 1) = true) (h3 : ¬ nI a = nI b) (h4 : inw x 0 1 = true) {y : Option ix_V × ix_W} (kk : Ev m_X5_link 33 [some (.inr 0), some (.inl (nI a)), some (.inl (nI b)), some (.inl x)] [] (mw n c tb tl se on dd ch fs fo cm ce li ke be) y) : Ev m_X5_link 0 (ix_en m_X5_link [.inr 0, .inl (nI a), .inl (nI b), .inl x]) [] (mw n c tb tl se on dd ch fs fo cm ce li ke be) y := by
  refine Ev.to 999 rfl ?_
  refine Ev.callV (rest := []) rfl rfl (m_isLetter _) ?_
  refine Ev.to 999 rfl ?_
  refine Ev.ff (by rw [bz_t h1]; decide) ?_
  refine Ev.to 999 rfl ?_
  refine Ev.callV (rest := []) rfl rfl (m_isLetter _) ?_
  refine Ev.to 999 rfl ?_
  refine Ev.ff (by rw [bz_t h2]; decide) ?_
  refine Ev.to 999 rfl ?_
  refine Ev.ff h3 ?_
  refine Ev.to 999 rfl ?_
  refine Ev.callS (rest := []) rfl rfl (m_in _ _ _ _) ?_
  refine Ev.to 999 rfl ?_
  refine Ev.ff (by rw [bz_t h4]; decide) ?_
  exact kk
theorem m_link_not {n : Nat} {c : Int32} {tb : Nat → Int32} {tl : Nat} {se on : Nat → Int32} {dd : Int32} {ch : Nat → Int32} {fs fo : Int32} {cm : Nat} {ce li ke be : Nat → Int32} (hn : n ≤ 8) {mm : Nat → Nat} (hm : ∀ i, i < n → ch i = nI (mm i) ∧ mm i < 2 ^ 31) {a b : Nat} {x : Int32} (ha : a < 8) (hb : b < 8) (h1 : inw (nI a) 0 (nI n - 1) = true) (h2 : inw (nI b) 0 (nI n - 1) = true) (h3 : ¬ nI a = nI b) (h4 : inw x 0 1 = true) (h : tb (8 * a + b) = 0 ∨ ¬ h_ff n tb ch dd mm = 0) : Cl m_X5_link [.inr 0, .inl (nI a), .inl (nI b), .inl x] (mw n c tb tl se on dd ch fs fo cm ce li ke be) (some (.inl (-3))) (mw n c tb tl se on dd ch fs fo cm ce li ke be) := by
  refine m_link_go h1 h2 h3 h4 ?_
  have no : Ev m_X5_link 54 [some (.inr 0), some (.inl (nI a)), some (.inl (nI b)), some (.inl x)] [] (mw n c tb tl se on dd ch fs fo cm ce li ke be) (some (.inl (-3)), (mw n c tb tl se on dd ch fs fo cm ce li ke be)) := by
    refine Ev.to 999 rfl ?_
    exact Ev.iret rfl rfl rfl rfl
  refine Ev.to 999 rfl ?_
  refine Ev.callV (rest := []) rfl rfl (m_stands hn hm) ?_
  refine Ev.to 999 rfl ?_
  refine Ev.if_ (fun h6 => ?_) (fun _ => no)
  refine Ev.to 999 rfl ?_
  refine Ev.aldE (8 * a + b) (ni8' a b) rfl rfl (by omega) (by decide) ?_
  refine Ev.to 999 rfl ?_
  refine Ev.if_ (fun _ => no) (fun h5 => ?_)
  rcases h with h | h
  · exact absurd h h5
  · exact absurd h6 h
theorem m_link {n : Nat} {c : Int32} {tb : Nat → Int32} {tl : Nat} {se on : Nat → Int32} {dd : Int32} {ch : Nat → Int32} {fs fo : Int32} {cm : Nat} {ce li ke be : Nat → Int32} (hn : n ≤ 8) {mm : Nat → Nat} (hm : ∀ i, i < n → ch i = nI (mm i) ∧ mm i < 2 ^ 31) {a b : Nat} {x r : Int32} (ha : a < 8) (hb : b < 8) (h1 : inw (nI a) 0 (nI n - 1) = true) (h2 : inw (nI b) 0 (nI n - 1) = true) (h3 : ¬ nI a = nI b) (h4 : inw x 0 1 = true) (h5 : ¬ tb (8 * a + b) = 0) (h6 : h_ff n tb ch dd mm = 0) (hl : Cl m_X5_linkOf [.inr 0, .inl (nI (min a b)), .inl (nI (max a b)), .inl x] (mw n c tb tl se on dd ch fs fo cm ce li ke be) (some (.inl r)) (mw n c tb tl se on dd ch fs fo cm ce li ke be)) : Cl m_X5_link [.inr 0, .inl (nI a), .inl (nI b), .inl x] (mw n c tb tl se on dd ch fs fo cm ce li ke be) (some (.inl r)) (mw n c tb tl se on dd ch fs fo cm ce li ke be) := by
  refine m_link_go h1 h2 h3 h4 ?_
  refine Ev.to 999 rfl ?_
  refine Ev.callV (rest := []) rfl rfl (m_stands hn hm) ?_
  refine Ev.to 999 rfl ?_
  refine Ev.tt h6 ?_
  refine Ev.to 999 rfl ?_
  refine Ev.aldE (8 * a + b) (ni8' a b) rfl rfl (by omega) (by decide) ?_
  refine Ev.to 999 rfl ?_
  refine Ev.ff h5 ?_
  refine Ev.to 999 rfl ?_
  refine Ev.if_ (fun h => ?_) (fun h => ?_)
  · have hab : b ≤ a := (nI_leI (by omega) (by omega)).mp h
    rw [Nat.min_eq_right hab, Nat.max_eq_left hab] at hl
    refine Ev.to 999 rfl ?_
    refine Ev.tt h ?_
    refine Ev.to 999 rfl ?_
    refine Ev.callV (rest := []) rfl rfl hl ?_
    exact Ev.iret rfl rfl rfl rfl
  · have hab : ¬ b ≤ a := fun z => h ((nI_leI (by omega) (by omega)).mpr z)
    rw [Nat.min_eq_left (by omega), Nat.max_eq_right (by omega)] at hl
    refine Ev.to 999 rfl ?_
    refine Ev.ff h ?_
    refine Ev.to 999 rfl ?_
    refine Ev.callV (rest := []) rfl rfl hl ?_
    exact Ev.iret rfl rfl rfl rfl
/-! readBack -/
theorem m_readBack_bad {n : Nat} {c : Int32} {tb : Nat → Int32} {tl : Nat} {se on : Nat → Int32} {dd : Int32} {ch : Nat → Int32} {fs fo : Int32} {cm : Nat} {ce li ke be : Nat → Int32} (hn : n ≤ 8) {x : Int32} (h : ¬ x &&& (fd (g_all ch) 0 n ^^^ (-1)) = 0) : Cl m_X5_readBack [.inr 0, .inl x] (mw n c tb tl se on dd ch fs fo cm ce li ke be) (some (.inl (-2))) (mw n c tb tl se on dd ch fs fo cm ce li ke be) := by
  refine Ev.to 999 rfl ?_
  refine Ev.callV rfl rfl (m_all hn) ?_
  refine Ev.to 999 rfl ?_
  refine Ev.ff h ?_
  refine Ev.to 999 rfl ?_
  exact Ev.iret rfl rfl rfl rfl
theorem m_readBack_not {n : Nat} {c : Int32} {tb : Nat → Int32} {tl : Nat} {se on : Nat → Int32} {dd : Int32} {ch : Nat → Int32} {fs fo : Int32} {cm : Nat} {ce li ke be : Nat → Int32} (hn : n ≤ 8) {mm : Nat → Nat} (hm : ∀ i, i < n → ch i = nI (mm i) ∧ mm i < 2 ^ 31) {x : Int32} (h : x &&& (fd (g_all ch) 0 n ^^^ (-1)) = 0) (h2 : ¬ h_ff n tb ch dd mm = 0) : Cl m_X5_readBack [.inr 0, .inl x] (mw n c tb tl se on dd ch fs fo cm ce li ke be) (some (.inl (-3))) (mw n c tb tl se on dd ch fs fo cm ce li ke be) := by
  refine Ev.to 999 rfl ?_
  refine Ev.callV rfl rfl (m_all hn) ?_
  refine Ev.to 999 rfl ?_
  refine Ev.tt h ?_
  refine Ev.to 999 rfl ?_
  refine Ev.callV (rest := []) rfl rfl (m_stands hn hm) ?_
  refine Ev.to 999 rfl ?_
  refine Ev.ff h2 ?_
  refine Ev.to 999 rfl ?_
  exact Ev.iret rfl rfl rfl rfl
def h_ri (y x : Int32) (m : Nat) : Bool := decide (0 < 2 * io (x &&& y) - io y ∨ (2 * io (x &&& y) - io y = 0 ∧ bb x (lowb m) = true))
def h_rb (ch : Nat → Int32) (mm : Nat → Nat) (x : Int32) (i : Nat) (a : Int32) : Int32 := a ||| (if h_ri (ch i) x (mm i) = true then (1 : Int32) <<< (nI i &&& 31) else 0)
theorem m_readBack {n : Nat} {c : Int32} {tb : Nat → Int32} {tl : Nat} {se on : Nat → Int32} {dd : Int32} {ch : Nat → Int32} {fs fo : Int32} {cm : Nat} {ce li ke be : Nat → Int32} (hn : n ≤ 8) {mm : Nat → Nat} (hm : ∀ i, i < n → ch i = nI (mm i) ∧ mm i < 2 ^ 31) (hpos : ∀ i, i < n → 0 < mm i) {x : Int32} (h : x &&& (fd (g_all ch) 0 n ^^^ (-1)) = 0) (h2 : h_ff n tb ch dd mm = 0) : Cl m_X5_readBack [.inr 0, .inl x] (mw n c tb tl se on dd ch fs fo cm ce li ke be) (some (.inl (fd (h_rb ch mm x) 0 n))) (mw n c tb tl se on dd ch fs fo cm ce li ke be) := by
  refine Ev.to 999 rfl ?_
  refine Ev.callV rfl rfl (m_all hn) ?_
  refine Ev.to 999 rfl ?_
  refine Ev.tt h ?_
  refine Ev.to 999 rfl ?_
  refine Ev.callV (rest := []) rfl rfl (m_stands hn hm) ?_
  refine Ev.to 999 rfl ?_
  refine Ev.tt h2 ?_
  refine Ev.to 28 (L1 := [_, _, _, _, _, _, _]) (st1 := []) rfl ?_
  refine Ev.loop (fun i => [some (.inr 0), some (.inl x), some (.inl (fd (h_rb ch mm x) 0 i)), some (.inl (nI i)), none, none, none]) (fun _ => (mw n c tb tl se on dd ch fs fo cm ce li ke be)) (fun _ => True) 0 n (Nat.zero_le n) trivial (fun i _ hi _ kk => ?_) (fun _ => ?_)
  · have kk := kk trivial
    obtain ⟨c1, c2⟩ := hm i hi
    have c3 := hpos i hi
    have c4 := (low_dec c3 c2).1
    rw [nI_succ, fd, h_rb, h_ri] at kk
    generalize fd (h_rb ch mm x) 0 i = a at kk ⊢
    generalize (some (Sum.inl (fd (h_rb ch mm x) 0 n)) : Option ix_V) = res at kk ⊢
    refine Ev.to 999 rfl ?_
    refine Ev.ff (nI_ng hi (by omega)) ?_
    refine Ev.to 999 rfl ?_
    refine Ev.ald rfl rfl (by omega) (by decide) ?_
    refine Ev.to 999 rfl ?_
    refine Ev.callS rfl rfl (m_ones _ _) ?_
    refine Ev.to 999 (L1 := [_, _, _, _, _, _, _]) rfl ?_
    refine Ev.ald rfl rfl (by omega) (by decide) ?_
    refine Ev.callS rfl rfl (m_ones _ _) ?_
    refine Ev.to 65 (L1 := [_, _, _, _, some (.inl (io (x &&& ch i))), some (.inl (2 * io (x &&& ch i) - io (ch i))), _]) (st1 := []) rfl ?_
    generalize 2 * io (x &&& ch i) - io (ch i) = y at kk ⊢
    have J : ∀ b : Bool, decide (0 < y ∨ (y = 0 ∧ bb x (lowb (mm i)) = true)) = b → Ev m_X5_readBack 97 [some (.inr 0), some (.inl x), some (.inl a), some (.inl (nI i)), some (.inl (io (x &&& ch i))), some (.inl y), none] [.inl (bz b)] (mw n c tb tl se on dd ch fs fo cm ce li ke be) (res, (mw n c tb tl se on dd ch fs fo cm ce li ke be)) := by
      intro b hb
      rw [hb] at kk
      refine Ev.to 999 (L1 := [_, _, _, _, _, _, _]) rfl ?_
      refine Ev.on (fun h => ?_) (fun h => ?_)
      · rw [if_neg (by rw [h]; decide)] at kk
        exact Ev.to 28 (L1 := [_, _, _, _, _, _, _]) rfl (Ev.fg kk (le_cc (le_cc (le_cc (le_cc (le_nc (le_nc (le_nc le_nil))))))))
      · rw [if_pos h] at kk
        exact Ev.to 28 (L1 := [_, _, _, _, _, _, _]) rfl (Ev.fg kk (le_cc (le_cc (le_cc (le_cc (le_nc (le_nc (le_nc le_nil))))))))
    refine Ev.to 999 rfl ?_
    refine Ev.if_ (fun h => ?_) (fun h => ?_)
    · exact Ev.to 97 rfl (J true (decide_eq_true (Or.inl h)))
    · refine Ev.to 999 rfl ?_
      refine Ev.if_ (fun h5 => ?_) (fun h5 => ?_)
      · refine Ev.to 999 rfl ?_
        refine Ev.ald rfl rfl (by omega) (by decide) ?_
        refine Ev.callS rfl rfl (Cl.eq (m_firstOf c3 c2 _) (by rw [← c1]; rfl) rfl) ?_
        refine Ev.to 999 rfl ?_
        refine Ev.if_ (fun h6 => ?_) (fun h6 => ?_)
        · exact Ev.to 97 rfl (J true (decide_eq_true (Or.inr ⟨h5, (bb1 (by omega)).mp h6⟩)))
        · exact Ev.to 97 rfl (J false (decide_eq_false (fun q => q.elim h (fun z => h6 ((bb1 (by omega)).mpr z.2)))))
      · exact Ev.to 97 rfl (J false (decide_eq_false (fun q => q.elim h (fun z => h5 z.1))))
  · refine Ev.to 999 rfl ?_
    refine Ev.tt (nI_gg (by omega)) ?_
    refine Ev.to 999 rfl ?_
    exact Ev.iret rfl rfl rfl rfl
/-! strong -/
def h_sp (ce : Nat → Int32) (s : Int32) (k : Nat) (a : Int32) : Int32 := a ||| (bz (bb s k) <<< (ce k &&& 31))
theorem m_spread {n : Nat} {c : Int32} {tb : Nat → Int32} {tl : Nat} {se on : Nat → Int32} {dd : Int32} {ch : Nat → Int32} {fs fo : Int32} {cm : Nat} {ce li ke be : Nat → Int32} (hc : cm ≤ 14) (s : Int32) : Cl m_X5_spread [.inr 0, .inl s] (mw n c tb tl se on dd ch fs fo cm ce li ke be) (some (.inl (fd (h_sp ce s) 0 cm))) (mw n c tb tl se on dd ch fs fo cm ce li ke be) := by
  refine Ev.to 4 (L1 := [_, _, _, _]) (st1 := []) rfl ?_
  refine Ev.loop (fun k => [some (.inr 0), some (.inl s), some (.inl (fd (h_sp ce s) 0 k)), some (.inl (nI k))]) (fun _ => (mw n c tb tl se on dd ch fs fo cm ce li ke be)) (fun _ => True) 0 cm (Nat.zero_le cm) trivial (fun k _ hk _ kk => ?_) (fun _ => ?_)
  · have kk := kk trivial
    rw [nI_succ, fd, h_sp, ← bbv (by omega)] at kk
    refine Ev.to 999 rfl ?_
    refine Ev.ff (nI_ng hk (by omega)) ?_
    refine Ev.to 999 rfl ?_
    refine Ev.ald rfl rfl (by omega) (by decide) ?_
    exact Ev.to 4 (L1 := [_, _, _, _]) rfl kk
  · refine Ev.to 999 rfl ?_
    refine Ev.tt (nI_gg (by omega)) ?_
    refine Ev.to 999 rfl ?_
    exact Ev.iret rfl rfl rfl rfl
def h_ov (tb li : Nat → Int32) (x : Int32) (i j : Nat) : Int32 := if ¬ li (8 * i + j) = 0 ∧ x &&& li (8 * i + j) = li (8 * i + j) then tb (8 * i + j) else 0
def h_oi (tb li : Nat → Int32) (x : Int32) (i j : Nat) (a : Int32) : Int32 := a + h_ov tb li x i j
def h_or (tb li : Nat → Int32) (x : Int32) (i : Nat) (a : Int32) : Int32 := fd (h_oi tb li x i) a (i + 1)
def h_on (n : Nat) (c : Int32) (tb li : Nat → Int32) (x : Int32) : Int32 := fd (h_or tb li x) c n
theorem m_energyOn {n : Nat} {c : Int32} {tb : Nat → Int32} {tl : Nat} {se on : Nat → Int32} {dd : Int32} {ch : Nat → Int32} {fs fo : Int32} {cm : Nat} {ce li ke be : Nat → Int32} (hn : n ≤ 8) (x : Int32) : Cl m_X5_energyOn [.inr 0, .inl x] (mw n c tb tl se on dd ch fs fo cm ce li ke be) (some (.inl (h_on n c tb li x))) (mw n c tb tl se on dd ch fs fo cm ce li ke be) := by
  refine Ev.to 7 (L1 := [_, _, _, _, _, _]) (st1 := []) rfl ?_
  refine Ev.loop (fun i => [some (.inr 0), some (.inl x), some (.inl (fd (h_or tb li x) c i)), some (.inl (nI i)), none, none]) (fun _ => (mw n c tb tl se on dd ch fs fo cm ce li ke be)) (fun _ => True) 0 n (Nat.zero_le n) trivial (fun i _ hi _ kk => ?_) (fun _ => ?_)
  · have kk := kk trivial
    rw [nI_succ, fd, h_or] at kk
    generalize fd (h_or tb li x) c i = a0 at kk ⊢
    generalize (some (Sum.inl (h_on n c tb li x)) : Option ix_V) = res at kk ⊢
    refine Ev.to 999 rfl ?_
    refine Ev.ff (nI_ng hi (by omega)) ?_
    refine Ev.to 18 (L1 := [_, _, _, _, _, _]) (st1 := []) rfl ?_
    refine Ev.loop (fun j => [some (.inr 0), some (.inl x), some (.inl (fd (h_oi tb li x i) a0 j)), some (.inl (nI i)), some (.inl (nI j)), none]) (fun _ => (mw n c tb tl se on dd ch fs fo cm ce li ke be)) (fun _ => True) 0 (i + 1) (Nat.zero_le _) trivial (fun j _ hj _ k2 => ?_) (fun _ => ?_)
    · have k2 := k2 trivial
      rw [nI_succ, fd, h_oi] at k2
      generalize fd (h_oi tb li x i) a0 j = a at k2 ⊢
      have J : ∀ v, h_ov tb li x i j = v → Ev m_X5_energyOn 69 [some (.inr 0), some (.inl x), some (.inl a), some (.inl (nI i)), some (.inl (nI j)), some (.inl (li (8 * i + j)))] [.inl v, .inl a] (mw n c tb tl se on dd ch fs fo cm ce li ke be) (res, (mw n c tb tl se on dd ch fs fo cm ce li ke be)) := by
        intro v hv
        rw [hv] at k2
        exact Ev.to 18 (L1 := [_, _, _, _, _, _]) rfl (Ev.fg k2 (le_cc (le_cc (le_cc (le_cc (le_cc (le_nc le_nil)))))))
      refine Ev.to 999 rfl ?_
      refine Ev.ff (nI_ngt (by omega) (by omega)) ?_
      refine Ev.to 999 rfl ?_
      refine Ev.aldE (8 * i + j) (ni8' i j) rfl rfl (by omega) (by decide) ?_
      refine Ev.to 999 (L1 := [_, _, _, _, _, _]) rfl ?_
      refine Ev.if_ (fun h => ?_) (fun h => ?_)
      · exact Ev.to 69 rfl (J _ (by rw [h_ov, if_neg (fun q => q.1 h)]))
      · refine Ev.to 999 rfl ?_
        refine Ev.if_ (fun h2 => ?_) (fun h2 => ?_)
        · refine Ev.to 999 rfl ?_
          refine Ev.aldE (8 * i + j) (ni8' i j) rfl rfl (by omega) (by decide) ?_
          exact Ev.to 69 rfl (J _ (by rw [h_ov, if_pos ⟨h, h2⟩]))
        · exact Ev.to 69 rfl (J _ (by rw [h_ov, if_neg (fun q => h2 q.2)]))
    · refine Ev.to 999 rfl ?_
      refine Ev.tt (nI_gt1 (by omega)) ?_
      exact Ev.to 7 (L1 := [_, _, _, _, _, _]) rfl (Ev.fg kk (le_cc (le_cc (le_cc (le_cc (le_nc (le_nc le_nil)))))))
  · refine Ev.to 999 rfl ?_
    refine Ev.tt (nI_gg (by omega)) ?_
    refine Ev.to 999 rfl ?_
    exact Ev.iret rfl rfl rfl rfl
def h_ui (o z : Int32) (c : Nat) (a : Int32) : Int32 := a + (if bb o c = true then io (h_be ((1 : Int32) <<< (nI c &&& 31)) &&& z) else 0)
def h_ur (ch : Nat → Int32) (x : Int32) (i : Nat) (a : Int32) : Int32 := if x &&& ch i = 0 ∨ ch i &&& (x ^^^ (-1)) = 0 then a else fd (h_ui (x &&& ch i) (ch i &&& (x ^^^ (-1)))) a 20
theorem m_unlike {n : Nat} {c : Int32} {tb : Nat → Int32} {tl : Nat} {se on : Nat → Int32} {dd : Int32} {ch : Nat → Int32} {fs fo : Int32} {cm : Nat} {ce li ke be : Nat → Int32} (hn : n ≤ 8) (x : Int32) : Cl m_X5_unlike [.inr 0, .inl x] (mw n c tb tl se on dd ch fs fo cm ce li ke be) (some (.inl (fd (h_ur ch x) 0 n))) (mw n c tb tl se on dd ch fs fo cm ce li ke be) := by
  refine Ev.to 4 (L1 := [_, _, _, _, _, _, _]) (st1 := []) rfl ?_
  refine Ev.loop (fun i => [some (.inr 0), some (.inl x), some (.inl (fd (h_ur ch x) 0 i)), some (.inl (nI i)), none, none, none]) (fun _ => (mw n c tb tl se on dd ch fs fo cm ce li ke be)) (fun _ => True) 0 n (Nat.zero_le n) trivial (fun i _ hi _ kk => ?_) (fun _ => ?_)
  · have kk := kk trivial
    rw [nI_succ, fd, h_ur] at kk
    generalize fd (h_ur ch x) 0 i = a0 at kk ⊢
    generalize (some (Sum.inl (fd (h_ur ch x) 0 n)) : Option ix_V) = res at kk ⊢
    refine Ev.to 999 rfl ?_
    refine Ev.ff (nI_ng hi (by omega)) ?_
    refine Ev.to 999 rfl ?_
    refine Ev.ald rfl rfl (by omega) (by decide) ?_
    refine Ev.to 999 (L1 := [_, _, _, _, _, _, _]) rfl ?_
    refine Ev.ald rfl rfl (by omega) (by decide) ?_
    refine Ev.to 37 (L1 := [_, _, _, _, some (.inl (x &&& ch i)), some (.inl (ch i &&& (x ^^^ (-1)))), _]) (st1 := []) rfl ?_
    generalize x &&& ch i = o at kk ⊢
    generalize ch i &&& (x ^^^ (-1)) = z at kk ⊢
    by_cases h1 : o = 0
    · rw [if_pos (Or.inl h1)] at kk
      refine Ev.to 999 (pc1 := 44) rfl ?_
      refine Ev.to 999 rfl ?_
      refine Ev.tt h1 ?_
      exact Ev.to 4 (L1 := [_, _, _, _, _, _, _]) rfl (Ev.fg kk (le_cc (le_cc (le_cc (le_cc (le_nc (le_nc (le_nc le_nil))))))))
    by_cases h2 : z = 0
    · rw [if_pos (Or.inr h2)] at kk
      refine Ev.to 999 (pc1 := 44) rfl ?_
      refine Ev.to 999 rfl ?_
      refine Ev.ff h1 ?_
      refine Ev.to 999 rfl ?_
      refine Ev.tt h2 ?_
      exact Ev.to 4 (L1 := [_, _, _, _, _, _, _]) rfl (Ev.fg kk (le_cc (le_cc (le_cc (le_cc (le_nc (le_nc (le_nc le_nil))))))))
    · rw [if_neg (fun q => q.elim h1 h2)] at kk
      refine Ev.loop (fun c => [some (.inr 0), some (.inl x), some (.inl (fd (h_ui o z) a0 c)), some (.inl (nI i)), some (.inl o), some (.inl z), some (.inl (nI c))]) (fun _ => (mw n c tb tl se on dd ch fs fo cm ce li ke be)) (fun _ => True) 0 20 (by omega) trivial (fun c _ hc _ k2 => ?_) (fun _ => ?_)
      · have k2 := k2 trivial
        rw [nI_succ, fd, h_ui] at k2
        generalize fd (h_ui o z) a0 c = a at k2 ⊢
        refine Ev.to 999 rfl ?_
        refine Ev.ff (nI_ng (n := 20) hc (by omega)) ?_
        refine Ev.to 999 rfl ?_
        refine Ev.ff h1 ?_
        refine Ev.to 999 rfl ?_
        refine Ev.ff h2 ?_
        refine Ev.to 999 rfl ?_
        refine Ev.if_ (fun h => ?_) (fun h => ?_)
        · rw [if_pos ((bb1 (by omega)).mp h)] at k2
          refine Ev.to 999 rfl ?_
          refine Ev.callS rfl rfl (m_beside _ _) ?_
          refine Ev.to 999 rfl ?_
          refine Ev.callS rfl rfl (m_ones _ _) ?_
          exact Ev.to 37 (L1 := [_, _, _, _, _, _, _]) rfl k2
        · rw [if_neg (fun q => h ((bb1 (by omega)).mpr q))] at k2
          exact Ev.to 37 (L1 := [_, _, _, _, _, _, _]) rfl k2
      · refine Ev.to 999 (pc1 := 91) rfl ?_
        exact Ev.to 4 (L1 := [_, _, _, _, _, _, _]) rfl (Ev.fg kk (le_cc (le_cc (le_cc (le_cc (le_nc (le_nc (le_nc le_nil))))))))
  · refine Ev.to 999 rfl ?_
    refine Ev.tt (nI_gg (by omega)) ?_
    refine Ev.to 999 rfl ?_
    exact Ev.iret rfl rfl rfl rfl
def h_lc (x : Int32) (j : Nat) (p : (Nat → Int32) × Nat) : (Nat → Int32) × Nat := if bb x j = true then (upd p.1 p.2 (nI j), p.2 + 1) else p
theorem h_lc_mono (x : Int32) (f : (Nat → Int32) × Nat) (i d : Nat) : (fd (h_lc x) f i).2 ≤ (fd (h_lc x) f (i + d)).2 := by
  induction d with
  | zero => exact Nat.le_refl _
  | succ d ih =>
    rw [show i + (d + 1) = (i + d) + 1 by omega, fd, h_lc]
    split
    · exact Nat.le_trans ih (Nat.le_succ _)
    · exact ih
def h_lv (tb : Nat → Int32) (l0 : Nat → Nat) (lf lt : Nat → Nat → Nat) (i j : Nat) : Int32 := if i = j then (1 : Int32) <<< (nI (l0 i) &&& 31) else if tb (8 * i + j) = 0 then 0 else ((1 : Int32) <<< (nI (lf j i) &&& 31)) ||| ((1 : Int32) <<< (nI (lt j i) &&& 31))
def h_li (tb : Nat → Int32) (l0 : Nat → Nat) (lf lt : Nat → Nat → Nat) (i j : Nat) (f : Nat → Int32) : Nat → Int32 := upd f (8 * i + j) (h_lv tb l0 lf lt i j)
def h_lr (tb : Nat → Int32) (l0 : Nat → Nat) (lf lt : Nat → Nat → Nat) (i : Nat) (f : Nat → Int32) : Nat → Int32 := fd (h_li tb l0 lf lt i) f (i + 1)
theorem m_layGrid {n : Nat} {c : Int32} {tb : Nat → Int32} {tl : Nat} {se on : Nat → Int32} {dd : Int32} {ch : Nat → Int32} {fs fo : Int32} {cm : Nat} {ce li ke be : Nat → Int32} (hn : n ≤ 8) (h14 : (fd (h_lc (fd (g_all ch) 0 n)) (ce, 0) 20).2 ≤ 14) {l0 : Nat → Nat} {lf lt : Nat → Nat → Nat} (h0 : ∀ i, i < n → ∀ w, Cl m_X5_firstOf [.inl (ch i)] w (some (.inl (nI (l0 i)))) w)
    (h1 : ∀ i j, j < i → i < n → ¬ tb (8 * i + j) = 0 → ∀ (cm2 : Nat) (ce2 li2 : Nat → Int32), Cl m_X5_linkOf [.inr 0, .inl (nI j), .inl (nI i), .inl 0] (mw n c tb tl se on dd ch fs fo (cm2) (ce2) (li2) ke be) (some (.inl (nI (lf j i)))) (mw n c tb tl se on dd ch fs fo (cm2) (ce2) (li2) ke be) ∧ Cl m_X5_linkOf [.inr 0, .inl (nI j), .inl (nI i), .inl 1] (mw n c tb tl se on dd ch fs fo (cm2) (ce2) (li2) ke be) (some (.inl (nI (lt j i)))) (mw n c tb tl se on dd ch fs fo (cm2) (ce2) (li2) ke be)) :
    Cl m_X5_layGrid [.inr 0] (mw n c tb tl se on dd ch fs fo cm ce li ke be) none (mw n c tb tl se on dd ch fs fo ((fd (h_lc (fd (g_all ch) 0 n)) (ce, 0) 20).2) ((fd (h_lc (fd (g_all ch) 0 n)) (ce, 0) 20).1) (fd (h_lr tb l0 lf lt) li n) ke be) := by
  refine Ev.to 999 (w1 := (mw n c tb tl se on dd ch fs fo (0) ce li ke be)) rfl ?_
  refine Ev.callV (rest := []) rfl rfl (m_all hn) ?_
  generalize fd (g_all ch) 0 n = x at h14 ⊢
  refine Ev.to 12 (L1 := [_, _, _, _, _]) (st1 := []) rfl ?_
  refine Ev.loop (fun j => [some (.inr 0), some (.inl x), some (.inl (nI j)), none, none]) (fun j => (mw n c tb tl se on dd ch fs fo ((fd (h_lc x) (ce, 0) j).2) ((fd (h_lc x) (ce, 0) j).1) li ke be)) (fun _ => True) 0 20 (by omega) trivial (fun j _ hj _ kk => ?_) (fun _ => ?_)
  · have kk := kk trivial
    have hm1 := h_lc_mono x (ce, 0) (j + 1) (20 - (j + 1))
    rw [show j + 1 + (20 - (j + 1)) = 20 by omega, fd, h_lc] at hm1
    rw [nI_succ, fd, h_lc] at kk
    generalize fd (h_lc x) (ce, 0) 20 = p20 at h14 hm1 kk ⊢
    generalize fd (h_lc x) (ce, 0) j = p at kk hm1 ⊢
    obtain ⟨F, m⟩ := p
    dsimp only at kk hm1 ⊢
    refine Ev.to 999 rfl ?_
    refine Ev.ff (nI_ng (n := 20) hj (by omega)) ?_
    refine Ev.to 999 rfl ?_
    refine Ev.if_ (fun h => ?_) (fun h => ?_)
    · have hb := (bb1 (by omega)).mp h
      rw [if_pos hb] at kk hm1
      dsimp only at kk hm1
      have e : (mw n c tb tl se on dd ch fs fo (m + 1) (upd F m (nI j)) li ke be) = List.set (mw n c tb tl se on dd ch fs fo (m) (upd F m (nI j)) li ke be) 0 (.inr (5, [.inl (nI n), .inl c, .inr 1, .inl (nI tl), .inr 2, .inr 3, .inl dd, .inr 4, .inl fs, .inl fo, .inl (nI m + 1), .inr 5, .inr 6, .inr 7, .inr 8])) := by rw [← nI_succ]; rfl
      rw [e] at kk
      refine Ev.to 999 rfl ?_
      refine Ev.ast rfl rfl (by omega) (by decide) ?_
      exact Ev.to 12 (L1 := [_, _, _, _, _]) rfl kk
    · rw [if_neg (fun q => h ((bb1 (by omega)).mpr q))] at kk
      exact Ev.to 12 (L1 := [_, _, _, _, _]) rfl kk
  · generalize fd (h_lc x) (ce, 0) 20 = p
    obtain ⟨F, m⟩ := p
    dsimp only
    refine Ev.to 999 (pc1 := 53) rfl ?_
    refine Ev.to 55 (L1 := [_, _, _, _, _]) (st1 := []) rfl ?_
    refine Ev.loop (fun i => [some (.inr 0), some (.inl x), some (.inl (nI i)), none, none]) (fun i => (mw n c tb tl se on dd ch fs fo (m) (F) (fd (h_lr tb l0 lf lt) li i) ke be)) (fun _ => True) 0 n (Nat.zero_le n) trivial (fun i _ hi _ kk => ?_) (fun _ => ?_)
    · have kk := kk trivial
      rw [nI_succ, fd, h_lr] at kk
      generalize fd (h_lr tb l0 lf lt) li i = L0 at kk ⊢
      generalize fd (h_lr tb l0 lf lt) li n = LN at kk ⊢
      refine Ev.to 999 rfl ?_
      refine Ev.ff (nI_ng hi (by omega)) ?_
      refine Ev.to 65 (L1 := [_, _, _, _, _]) (st1 := []) rfl ?_
      refine Ev.loop (fun j => [some (.inr 0), some (.inl x), some (.inl (nI i)), some (.inl (nI j)), none]) (fun j => (mw n c tb tl se on dd ch fs fo (m) (F) (fd (h_li tb l0 lf lt i) L0 j) ke be)) (fun _ => True) 0 (i + 1) (Nat.zero_le _) trivial (fun j _ hj _ k2 => ?_) (fun _ => ?_)
      · have k2 := k2 trivial
        rw [nI_succ, fd, h_li] at k2
        generalize fd (h_li tb l0 lf lt i) L0 j = L1 at k2 ⊢
        have J : ∀ v, h_lv tb l0 lf lt i j = v → Ev m_X5_layGrid 140 [some (.inr 0), some (.inl x), some (.inl (nI i)), some (.inl (nI j)), some (.inl (tb (8 * i + j)))] [.inl v, .inl (8 * nI i + nI j), .inr 6] (mw n c tb tl se on dd ch fs fo (m) (F) (L1) ke be) (none, (mw n c tb tl se on dd ch fs fo (m) (F) (LN) ke be)) := by
          intro v hv
          rw [hv] at k2
          refine Ev.astE (8 * i + j) (ni8' i j) rfl rfl (by omega) (by decide) ?_
          exact Ev.to 65 (L1 := [_, _, _, _, _]) rfl (Ev.fg k2 (le_cc (le_cc (le_cc (le_cc (le_nc le_nil))))))
        refine Ev.to 999 rfl ?_
        refine Ev.ff (nI_ngt (by omega) (by omega)) ?_
        refine Ev.to 999 rfl ?_
        refine Ev.aldE (8 * i + j) (ni8' i j) rfl rfl (by omega) (by decide) ?_
        refine Ev.to 999 (L1 := [_, _, _, _, _]) rfl ?_
        refine Ev.if_ (fun h => ?_) (fun h => ?_)
        · have hij := (nI_eq (by omega) (by omega)).mp h
          refine Ev.to 999 rfl ?_
          refine Ev.ald rfl rfl (by omega) (by decide) ?_
          refine Ev.callS rfl rfl (h0 i hi _) ?_
          exact Ev.to 140 rfl (J _ (by rw [h_lv, if_pos hij]))
        · have hij : ¬ i = j := fun z => h (by rw [z])
          refine Ev.to 999 rfl ?_
          refine Ev.if_ (fun h5 => ?_) (fun h5 => ?_)
          · exact Ev.to 140 rfl (J _ (by rw [h_lv, if_neg hij, if_pos h5]))
          · obtain ⟨d1, d2⟩ := h1 i j (by omega) hi h5 m F L1
            refine Ev.to 999 rfl ?_
            refine Ev.callV rfl rfl d1 ?_
            refine Ev.to 999 rfl ?_
            refine Ev.callV rfl rfl d2 ?_
            exact Ev.to 140 rfl (J _ (by rw [h_lv, if_neg hij, if_neg h5]))
      · refine Ev.to 999 rfl ?_
        refine Ev.tt (nI_gt1 (by omega)) ?_
        exact Ev.to 55 (L1 := [_, _, _, _, _]) rfl (Ev.fg kk (le_cc (le_cc (le_cc (le_nc (le_nc le_nil))))))
    · refine Ev.to 999 rfl ?_
      refine Ev.tt (nI_gg (by omega)) ?_
      exact Ev.vret rfl rfl rfl
def h_sx (ce : Nat → Int32) (cm : Nat) (s : Nat) : Int32 := fd (h_sp ce (nI s)) 0 cm
def h_sm (n : Nat) (c : Int32) (tb li ch : Nat → Int32) (ce : Nat → Int32) (cm : Nat) (best : Int32) (s : Nat) (a : Int32) : Int32 := if 0 ≤ best - h_on n c tb li (h_sx ce cm s) ∧ 0 < fd (h_ur ch (h_sx ce cm s)) 0 n then (if (best - h_on n c tb li (h_sx ce cm s)) / fd (h_ur ch (h_sx ce cm s)) 0 n + 1 ≤ a then a else (best - h_on n c tb li (h_sx ce cm s)) / fd (h_ur ch (h_sx ce cm s)) 0 n + 1) else a
theorem m_strong_no {n : Nat} {c : Int32} {tb : Nat → Int32} {tl : Nat} {se on : Nat → Int32} {dd : Int32} {ch : Nat → Int32} {fs fo : Int32} {cm : Nat} {ce li ke be : Nat → Int32} (hn : n ≤ 8) {mm : Nat → Nat} (hm : ∀ i, i < n → ch i = nI (mm i) ∧ mm i < 2 ^ 31) (h : ¬ h_ff n tb ch dd mm = 0) : Cl m_X5_strong [.inr 0] (mw n c tb tl se on dd ch fs fo cm ce li ke be) (some (.inl (-3))) (mw n c tb tl se on dd ch fs fo cm ce li ke be) := by
  refine Ev.to 999 rfl ?_
  refine Ev.callV (rest := []) rfl rfl (m_stands hn hm) ?_
  refine Ev.to 999 rfl ?_
  refine Ev.ff h ?_
  refine Ev.to 999 rfl ?_
  exact Ev.iret rfl rfl rfl rfl
theorem m_strong {n : Nat} {c : Int32} {tb : Nat → Int32} {tl : Nat} {se on : Nat → Int32} {dd : Int32} {ch : Nat → Int32} {fs fo : Int32} {cm : Nat} {ce li ke be : Nat → Int32} (hn : n ≤ 8) {mm : Nat → Nat} (hm : ∀ i, i < n → ch i = nI (mm i) ∧ mm i < 2 ^ 31) (h : h_ff n tb ch dd mm = 0) {cm2 : Nat} {ce2 li2 : Nat → Int32} (hc : cm2 ≤ 14) (hl : Cl m_X5_layGrid [.inr 0] (mw n c tb tl se on dd ch fs fo cm ce li ke be) none (mw n c tb tl se on dd ch fs fo (cm2) (ce2) (li2) ke be)) : Cl m_X5_strong [.inr 0] (mw n c tb tl se on dd ch fs fo cm ce li ke be) (some (.inl (fd (h_sm n c tb li2 ch ce2 cm2 (g_low n (h_E n c tb))) 0 (2 ^ cm2)))) (mw n c tb tl se on dd ch fs fo (cm2) (ce2) (li2) ke be) := by
  obtain ⟨hp1, hp2⟩ := pw_le hn
  have hq2 : 1 ≤ 2 ^ cm2 := Nat.two_pow_pos cm2
  have hq1 : 2 ^ cm2 ≤ 16384 := Nat.le_trans (Nat.pow_le_pow_right (by omega) hc) (by decide)
  refine Ev.to 999 rfl ?_
  refine Ev.callV (rest := []) rfl rfl (m_stands hn hm) ?_
  refine Ev.to 999 rfl ?_
  refine Ev.tt h ?_
  refine Ev.to 999 rfl ?_
  refine Ev.callV (rest := []) rfl rfl hl ?_
  refine Ev.to 999 rfl ?_
  refine Ev.callV (rest := []) rfl rfl (m_energyOf hn 0) ?_
  refine Ev.to 22 (L1 := [_, _, _, _, _, _, _]) (st1 := []) rfl ?_
  refine Ev.loop (fun t => [some (.inr 0), some (.inl (fd (g_mn (h_E n c tb)) (h_E n c tb 0) t)), some (.inl (nI (t + 1))), none, none, none, none]) (fun _ => (mw n c tb tl se on dd ch fs fo (cm2) (ce2) (li2) ke be)) (fun _ => True) 0 (2 ^ n - 1) (Nat.zero_le _) trivial (fun t _ ht2 _ kk => ?_) (fun _ => ?_)
  · have kk := kk trivial
    rw [nI_succ (t + 1), fd, g_mn, imin] at kk
    generalize fd (g_mn (h_E n c tb)) (h_E n c tb 0) t = a at kk ⊢
    refine Ev.to 999 rfl ?_
    refine Ev.ff (m_pw hn (by omega)) ?_
    refine Ev.to 999 rfl ?_
    refine Ev.callV (rest := []) rfl rfl (m_energyOf hn _) ?_
    refine Ev.to 999 rfl ?_
    refine Ev.if_ (fun h => ?_) (fun h => ?_)
    · rw [if_neg (i32_nlt.mpr h)] at kk
      exact Ev.to 22 (L1 := [_, _, _, _, _, _, _]) rfl kk
    · rw [if_pos (i32_nle.mp h)] at kk
      refine Ev.to 999 rfl ?_
      refine Ev.callV (rest := []) rfl rfl (m_energyOf hn _) ?_
      exact Ev.to 22 (L1 := [_, _, _, _, _, _, _]) rfl kk
  · refine Ev.to 999 rfl ?_
    rw [show 2 ^ n - 1 + 1 = 2 ^ n by omega]
    refine Ev.tt (m_pw' hn) ?_
    change Ev _ _ [_, some (.inl (g_low n (h_E n c tb))), _, _, _, _, _] _ _ _
    generalize g_low n (h_E n c tb) = best
    refine Ev.to 61 (L1 := [_, _, _, _, _, _, _]) (st1 := []) rfl ?_
    refine Ev.loop (fun s => [some (.inr 0), some (.inl best), some (.inl (fd (h_sm n c tb li2 ch ce2 cm2 best) 0 s)), some (.inl (nI s)), none, none, none]) (fun _ => (mw n c tb tl se on dd ch fs fo (cm2) (ce2) (li2) ke be)) (fun _ => True) 0 (2 ^ cm2) (Nat.zero_le _) trivial (fun s _ hs _ kk => ?_) (fun _ => ?_)
    · have kk := kk trivial
      rw [nI_succ, fd, h_sm] at kk
      generalize fd (h_sm n c tb li2 ch ce2 cm2 best) 0 s = a at kk ⊢
      generalize (some (Sum.inl (fd (h_sm n c tb li2 ch ce2 cm2 best) 0 (2 ^ cm2))) : Option ix_V) = res at kk ⊢
      refine Ev.to 999 rfl ?_
      refine Ev.ff (by show ¬ (1 : Int32) <<< (nI cm2 &&& 31) ≤ nI s; rw [pw_n14 hc]; exact nI_ng hs (by omega)) ?_
      refine Ev.to 999 rfl ?_
      refine Ev.callV (rest := []) rfl rfl (m_spread hc _) ?_
      change Ev _ _ _ (.inl (h_sx ce2 cm2 s) :: _) _ _
      generalize h_sx ce2 cm2 s = x at kk ⊢
      refine Ev.to 999 (L1 := [_, _, _, _, _, _, _]) rfl ?_
      refine Ev.callV (rest := [_]) rfl rfl (m_energyOn hn _) ?_
      refine Ev.to 88 (L1 := [_, _, _, _, _, some (.inl (best - h_on n c tb li2 x)), _]) (st1 := []) rfl ?_
      generalize best - h_on n c tb li2 x = y at kk ⊢
      have J : ∀ v, (0 ≤ y ∧ 0 < fd (h_ur ch x) 0 n ↔ 0 < v) → (0 < v → fd (h_ur ch x) 0 n = v) → Ev m_X5_strong 103 [some (.inr 0), some (.inl best), some (.inl a), some (.inl (nI s)), some (.inl x), some (.inl y), none] [.inl v] (mw n c tb tl se on dd ch fs fo (cm2) (ce2) (li2) ke be) (res, (mw n c tb tl se on dd ch fs fo (cm2) (ce2) (li2) ke be)) := by
        intro v hv1 hv2
        refine Ev.to 999 (L1 := [_, _, _, _, _, _, _]) rfl ?_
        refine Ev.if_ (fun h1 => ?_) (fun h1 => ?_)
        · rw [if_neg (fun z => i32_nlt.mpr h1 (hv1.mp z))] at kk
          exact Ev.to 61 (L1 := [_, _, _, _, _, _, _]) rfl (Ev.fg kk (le_cc (le_cc (le_cc (le_cc (le_nc (le_nc (le_nc le_nil))))))))
        · have h1 := i32_nle.mp h1
          rw [if_pos (hv1.mpr h1), hv2 h1] at kk
          refine Ev.to 999 rfl ?_
          refine Ev.dv rfl (fun z => by rw [z] at h1; exact absurd h1 (by decide)) ?_
          refine Ev.to 999 rfl ?_
          refine Ev.if_ (fun h3 => ?_) (fun h3 => ?_)
          · rw [if_pos h3] at kk
            exact Ev.to 61 (L1 := [_, _, _, _, _, _, _]) rfl (Ev.fg kk (le_cc (le_cc (le_cc (le_cc (le_nc (le_nc (le_nc le_nil))))))))
          · rw [if_neg h3] at kk
            refine Ev.to 999 rfl ?_
            refine Ev.dv rfl (fun z => by rw [z] at h1; exact absurd h1 (by decide)) ?_
            exact Ev.to 61 (L1 := [_, _, _, _, _, _, _]) rfl (Ev.fg kk (le_cc (le_cc (le_cc (le_cc (le_nc (le_nc (le_nc le_nil))))))))
      refine Ev.to 999 rfl ?_
      refine Ev.if_ (fun h1 => ?_) (fun h1 => ?_)
      · exact Ev.to 103 rfl (J 0 ⟨fun z => absurd h1 (i32_nlt.mpr z.1), fun z => absurd z (by decide)⟩ (fun z => absurd z (by decide)))
      · refine Ev.to 999 rfl ?_
        refine Ev.callV (rest := []) rfl rfl (m_unlike hn _) ?_
        exact Ev.to 103 rfl (J _ ⟨fun z => z.2, fun z => ⟨i32_nlt.mp h1, z⟩⟩ (fun _ => rfl))
    · refine Ev.to 999 rfl ?_
      refine Ev.tt (by show (1 : Int32) <<< (nI cm2 &&& 31) ≤ nI (2 ^ cm2); rw [pw_n14 hc]; exact nI_gg (by omega)) ?_
      refine Ev.to 999 rfl ?_
      exact Ev.iret rfl rfl rfl rfl
