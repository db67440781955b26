/-! the reference: turn, cut, walk, count -/
def h_t1a (i j : Nat) (T : Nat → Int32) : Nat → Int32 := upd T (8 * j + j) (T (8 * j + j) + T (8 * i + j))
def h_t1 (i j : Nat) (T : Nat → Int32) : Nat → Int32 := if j = i then T else upd (upd (h_t1a i j T) (8 * i + j) (-(h_t1a i j T (8 * i + j)))) (8 * j + i) (-(h_t1a i j T (8 * i + j)))
def h_t0 (n i : Nat) (T : Nat → Int32) : Nat → Int32 := fd (h_t1 i) (upd T (8 * i + i) (-(T (8 * i + i)))) n
theorem m_turnOne {n : Nat} {c : Int32} {tb : Nat → Int32} {tl : Nat} {se on : Nat → Int32} {dd : Int32} {ch : Nat → Int32} {fs fo : Int32} {cm : Nat} {ce li ke be : Nat → Int32} (hn : n ≤ 8) {i : Nat} (hi : i < 8) : Cl m_X5_turnOne [.inr 0, .inl (nI i)] (mw n c tb tl se on dd ch fs fo cm ce li ke be) none (mw n (c + tb (8 * i + i)) (h_t0 n i tb) tl se on dd ch fs fo cm ce li ke be) := by
  rw [h_t0]
  refine Ev.to 999 rfl ?_
  refine Ev.aldE (8 * i + i) (ni8' i i) rfl rfl (by omega) (by decide) ?_
  refine Ev.to 999 (w1 := (mw n (c + tb (8 * i + i)) tb tl se on dd ch fs fo cm ce li ke be)) rfl ?_
  refine Ev.aldE (8 * i + i) (ni8' i i) rfl rfl (by omega) (by decide) ?_
  refine Ev.to 999 rfl ?_
  refine Ev.astE (8 * i + i) (ni8' i i) rfl rfl (by omega) (by decide) ?_
  generalize c + tb (8 * i + i) = C
  refine Ev.to 45 (L1 := [_, _, _]) (st1 := []) (w1 := (mw n (C) (upd tb (8 * i + i) (-(tb (8 * i + i)))) tl se on dd ch fs fo cm ce li ke be)) rfl ?_
  generalize upd tb (8 * i + i) (-(tb (8 * i + i))) = T0
  refine Ev.loop (fun j => [some (.inr 0), some (.inl (nI i)), some (.inl (nI j))]) (fun j => (mw n (C) (fd (h_t1 i) T0 j) tl se on dd ch fs fo cm ce li ke be)) (fun _ => True) 0 n (Nat.zero_le n) trivial (fun j _ hj _ kk => ?_) (fun _ => ?_)
  · have kk := kk trivial
    rw [nI_succ, fd, h_t1] at kk
    generalize fd (h_t1 i) T0 j = T at kk ⊢
    generalize fd (h_t1 i) T0 n = TN at kk ⊢
    refine Ev.to 999 rfl ?_
    refine Ev.ff (nI_ng hj (by omega)) ?_
    refine Ev.to 999 rfl ?_
    refine Ev.if_ (fun h => ?_) (fun h => ?_)
    · rw [if_pos ((nI_eq (by omega) (by omega)).mp h)] at kk
      exact Ev.to 45 (L1 := [_, _, _]) rfl kk
    · have hji : ¬ j = i := fun z => h (by rw [z])
      rw [if_neg hji] at kk
      refine Ev.to 999 rfl ?_
      refine Ev.aldE (8 * j + j) (ni8' j j) rfl rfl (by omega) (by decide) ?_
      refine Ev.to 999 rfl ?_
      refine Ev.aldE (8 * i + j) (ni8' i j) rfl rfl (by omega) (by decide) ?_
      refine Ev.to 999 rfl ?_
      refine Ev.astE (8 * j + j) (ni8' j j) rfl rfl (by omega) (by decide) ?_
      refine Ev.to 999 (w1 := (mw n (C) (h_t1a i j T) tl se on dd ch fs fo cm ce li ke be)) rfl ?_
      refine Ev.aldE (8 * i + j) (ni8' i j) rfl rfl (by omega) (by decide) ?_
      refine Ev.to 999 rfl ?_
      refine Ev.callV (rest := []) rfl rfl (m_putWeight hi (by omega) _) ?_
      exact Ev.to 45 (L1 := [_, _, _]) rfl kk
  · refine Ev.to 999 rfl ?_
    refine Ev.tt (nI_gg (by omega)) ?_
    exact Ev.vret rfl rfl rfl
theorem m_turn_bad {n : Nat} {c : Int32} {tb : Nat → Int32} {tl : Nat} {se on : Nat → Int32} {dd : Int32} {ch : Nat → Int32} {fs fo : Int32} {cm : Nat} {ce li ke be : Nat → Int32} (hn : n ≤ 8) {s : Int32} (h : inw s 0 (nI (2 ^ n) - 1) = false) : Cl m_X5_turn [.inr 0, .inl s] (mw n c tb tl se on dd ch fs fo cm ce li ke be) (some (.inl (-2147483648))) (mw n c tb tl se on dd ch fs fo cm ce li ke be) := by
  refine Ev.to 999 rfl ?_
  refine Ev.callV (rest := []) rfl rfl (m_isState hn _) ?_
  refine Ev.to 999 rfl ?_
  refine Ev.tt (bz_f h) ?_
  refine Ev.to 999 rfl ?_
  exact Ev.iret rfl rfl rfl rfl
def h_cp (g : Nat → Int32) (k : Nat) (f : Nat → Int32) : Nat → Int32 := upd f k (g k)
def h_tt (n : Nat) (s : Int32) (i : Nat) (p : Int32 × (Nat → Int32)) : Int32 × (Nat → Int32) := if bb s i = true then (p.1 + p.2 (8 * i + i), h_t0 n i p.2) else p
def h_far (T : Nat → Int32) (k : Nat) : Bool := decide (60 < iabs (T k))
theorem m_turn_go {n : Nat} {c : Int32} {tb : Nat → Int32} {tl : Nat} {se on : Nat → Int32} {dd : Int32} {ch : Nat → Int32} {fs fo : Int32} {cm : Nat} {ce li ke be : Nat → Int32} (hn : n ≤ 8) {s : Int32} (h : inw s 0 (nI (2 ^ n) - 1) = true) {x : Option ix_V × ix_W} (kk : Ev m_X5_turn 115 [some (.inr 0), some (.inl s), some (.inl c), some (.inl (bz (anyB (h_far (fd (h_tt n s) (c, tb) n).2) 64))), some (.inl (nI 64))] [] (mw n ((fd (h_tt n s) (c, tb) n).1) ((fd (h_tt n s) (c, tb) n).2) tl se on dd ch fs fo cm ce li (fd (h_cp tb) ke 64) be) x) : Ev m_X5_turn 0 (ix_en m_X5_turn [.inr 0, .inl s]) [] (mw n c tb tl se on dd ch fs fo cm ce li ke be) x := by
  refine Ev.to 999 rfl ?_
  refine Ev.callV (rest := []) rfl rfl (m_isState hn _) ?_
  refine Ev.to 999 rfl ?_
  refine Ev.ff (by rw [bz_t h]; decide) ?_
  refine Ev.to 18 (L1 := [_, _, _, _, _]) (st1 := []) rfl ?_
  refine Ev.loop (fun k => [some (.inr 0), some (.inl s), some (.inl c), some (.inl (nI k)), none]) (fun k => (mw n c tb tl se on dd ch fs fo cm ce li (fd (h_cp tb) ke k) be)) (fun _ => True) 0 64 (by omega) trivial (fun k _ hk _ k2 => ?_) (fun _ => ?_)
  · have k2 := k2 trivial
    rw [nI_succ, fd, h_cp] at k2
    refine Ev.to 999 rfl ?_
    refine Ev.ff (nI_ng (n := 64) hk (by omega)) ?_
    refine Ev.to 999 rfl ?_
    refine Ev.ald rfl rfl hk (by decide) ?_
    refine Ev.ast rfl rfl hk (by decide) ?_
    exact Ev.to 18 (L1 := [_, _, _, _, _]) rfl k2
  · generalize fd (h_cp tb) ke 64 = K at kk ⊢
    refine Ev.to 999 (pc1 := 42) rfl ?_
    refine Ev.to 44 (L1 := [_, _, _, _, _]) (st1 := []) rfl ?_
    refine Ev.loop (fun i => [some (.inr 0), some (.inl s), some (.inl c), some (.inl (nI i)), none]) (fun i => (mw n ((fd (h_tt n s) (c, tb) i).1) ((fd (h_tt n s) (c, tb) i).2) tl se on dd ch fs fo cm ce li (K) be)) (fun _ => True) 0 n (Nat.zero_le n) trivial (fun i _ hi _ k2 => ?_) (fun _ => ?_)
    · have k2 := k2 trivial
      rw [nI_succ, fd, h_tt] at k2
      generalize fd (h_tt n s) (c, tb) i = p at k2 ⊢
      obtain ⟨C, T⟩ := p
      dsimp only at k2 ⊢
      refine Ev.to 999 rfl ?_
      refine Ev.ff (nI_ng hi (by omega)) ?_
      refine Ev.to 999 rfl ?_
      refine Ev.if_ (fun h1 => ?_) (fun h1 => ?_)
      · rw [if_pos ((bb1 (by omega)).mp h1)] at k2
        dsimp only at k2
        refine Ev.to 999 rfl ?_
        refine Ev.callV (rest := []) rfl rfl (m_turnOne hn (by omega)) ?_
        exact Ev.to 44 (L1 := [_, _, _, _, _]) rfl k2
      · rw [if_neg (fun q => h1 ((bb1 (by omega)).mpr q))] at k2
        exact Ev.to 44 (L1 := [_, _, _, _, _]) rfl k2
    · generalize fd (h_tt n s) (c, tb) n = p at kk ⊢
      obtain ⟨C, T⟩ := p
      dsimp only at kk ⊢
      refine Ev.to 999 rfl ?_
      refine Ev.tt (nI_gg (by omega)) ?_
      refine Ev.to 77 (L1 := [_, _, _, _, _]) (st1 := []) rfl ?_
      refine Ev.loop (fun k => [some (.inr 0), some (.inl s), some (.inl c), some (.inl (bz (anyB (h_far T) k))), some (.inl (nI k))]) (fun _ => (mw n (C) (T) tl se on dd ch fs fo cm ce li (K) be)) (fun _ => True) 0 64 (by omega) trivial (fun k _ hk _ k2 => ?_) (fun _ => ?_)
      · have k2 := k2 trivial
        rw [nI_succ, anyB_s] at k2
        generalize anyB (h_far T) k = b at k2 ⊢
        have J : ∀ v, (b || h_far T k) = v → Ev m_X5_turn 108 [some (.inr 0), some (.inl s), some (.inl c), some (.inl (bz b)), some (.inl (nI k))] [.inl (bz v)] (mw n (C) (T) tl se on dd ch fs fo cm ce li (K) be) x := by
          intro v hv
          rw [hv] at k2
          exact Ev.to 77 (L1 := [_, _, _, _, _]) rfl k2
        refine Ev.to 999 rfl ?_
        refine Ev.ff (nI_ng (n := 64) hk (by omega)) ?_
        refine Ev.to 999 rfl ?_
        refine Ev.on (fun hb => ?_) (fun hb => ?_)
        · subst hb
          refine Ev.to 999 rfl ?_
          refine Ev.ald rfl rfl hk (by decide) ?_
          refine Ev.callS rfl rfl (m_size _ _) ?_
          refine Ev.to 999 rfl ?_
          refine Ev.if_ (fun h1 => ?_) (fun h1 => ?_)
          · exact Ev.to 108 rfl (J false (by rw [h_far, decide_eq_false (i32_nlt.mpr h1)]; rfl))
          · exact Ev.to 108 rfl (J true (by rw [h_far, decide_eq_true (i32_nle.mp h1)]; rfl))
        · subst hb
          exact Ev.to 108 rfl (J true rfl)
      · refine Ev.to 999 (pc1 := 115) rfl ?_
        exact kk
theorem m_turn_not {n : Nat} {c : Int32} {tb : Nat → Int32} {tl : Nat} {se on : Nat → Int32} {dd : Int32} {ch : Nat → Int32} {fs fo : Int32} {cm : Nat} {ce li ke be : Nat → Int32} (hn : n ≤ 8) {s : Int32} (h : inw s 0 (nI (2 ^ n) - 1) = true) (hf : anyB (h_far (fd (h_tt n s) (c, tb) n).2) 64 = true) : Cl m_X5_turn [.inr 0, .inl s] (mw n c tb tl se on dd ch fs fo cm ce li ke be) (some (.inl (-3))) (mw n c (fd (h_cp (fd (h_cp tb) ke 64)) (fd (h_tt n s) (c, tb) n).2 64) tl se on dd ch fs fo cm ce li (fd (h_cp tb) ke 64) be) := by
  refine m_turn_go hn h ?_
  rw [hf]
  generalize fd (h_cp tb) ke 64 = K
  generalize fd (h_tt n s) (c, tb) n = p
  obtain ⟨C, T⟩ := p
  dsimp only
  refine Ev.to 999 (pc1 := 119) rfl ?_
  refine Ev.to 127 (L1 := [_, _, _, _, _]) (st1 := []) (w1 := (mw n c (T) tl se on dd ch fs fo cm ce li (K) be)) rfl ?_
  refine Ev.loop (fun k => [some (.inr 0), some (.inl s), some (.inl c), some (.inl (bz true)), some (.inl (nI k))]) (fun k => (mw n c (fd (h_cp K) T k) tl se on dd ch fs fo cm ce li (K) be)) (fun _ => True) 0 64 (by omega) trivial (fun k _ hk _ k2 => ?_) (fun _ => ?_)
  · have k2 := k2 trivial
    rw [nI_succ, fd, h_cp] at k2
    refine Ev.to 999 rfl ?_
    refine Ev.ff (nI_ng (n := 64) hk (by omega)) ?_
    refine Ev.to 999 rfl ?_
    refine Ev.ald rfl rfl hk (by decide) ?_
    refine Ev.ast rfl rfl hk (by decide) ?_
    exact Ev.to 127 (L1 := [_, _, _, _, _]) rfl k2
  · refine Ev.to 999 (pc1 := 154) rfl ?_
    refine Ev.to 999 rfl ?_
    exact Ev.iret rfl rfl rfl rfl
theorem m_turn {n : Nat} {c : Int32} {tb : Nat → Int32} {tl : Nat} {se on : Nat → Int32} {dd : Int32} {ch : Nat → Int32} {fs fo : Int32} {cm : Nat} {ce li ke be : Nat → Int32} (hn : n ≤ 8) {s : Int32} (h : inw s 0 (nI (2 ^ n) - 1) = true) (hf : anyB (h_far (fd (h_tt n s) (c, tb) n).2) 64 = false) : Cl m_X5_turn [.inr 0, .inl s] (mw n c tb tl se on dd ch fs fo cm ce li ke be) (some (.inl (fd (h_tt n s) (c, tb) n).1)) (mw n ((fd (h_tt n s) (c, tb) n).1) ((fd (h_tt n s) (c, tb) n).2) tl se on dd ch fs fo cm ce li (fd (h_cp tb) ke 64) be) := by
  refine m_turn_go hn h ?_
  rw [hf]
  refine Ev.to 999 (pc1 := 157) rfl ?_
  refine Ev.to 999 rfl ?_
  exact Ev.iret rfl rfl rfl rfl
/-! cut -/
def h_cq (x s : Int32) : Int32 := iabs x / s + (if 2 * (iabs x - iabs x / s * s) ≤ s then 0 else 1)
def h_cu (x s : Int32) : Int32 := if 0 ≤ x then h_cq x s * s else -(h_cq x s) * s
theorem m_cutOf (x : Int32) {s : Int32} (hs : s ≠ 0) (w : ix_W) : Cl m_X5_cutOf [.inl x, .inl s] w (some (.inl (h_cu x s))) w := by
  rw [h_cu]
  refine Ev.to 999 rfl ?_
  refine Ev.callS rfl rfl (m_size _ _) ?_
  refine Ev.to 999 rfl ?_
  refine Ev.dv rfl hs ?_
  refine Ev.to 999 (L1 := [_, _, _]) rfl ?_
  refine Ev.callS rfl rfl (m_size _ _) ?_
  refine Ev.to 999 rfl ?_
  refine Ev.rm rfl hs ?_
  have J : ∀ q, h_cq x s = q → Ev m_X5_cutOf 27 [some (.inl x), some (.inl s), some (.inl q)] [] w (some (.inl (if 0 ≤ x then h_cq x s * s else -(h_cq x s) * s)), w) := by
    intro q hq
    rw [hq]
    refine Ev.to 999 rfl ?_
    refine Ev.if_ (fun h => ?_) (fun h => ?_)
    · rw [if_pos h]
      refine Ev.to 999 rfl ?_
      exact Ev.iret rfl rfl rfl rfl
    · rw [if_neg h]
      refine Ev.to 999 rfl ?_
      exact Ev.iret rfl rfl rfl rfl
  refine Ev.to 999 rfl ?_
  refine Ev.if_ (fun h => ?_) (fun h => ?_)
  · exact Ev.to 27 (L1 := [_, _, _]) rfl (J _ (by rw [h_cq, if_pos (show 2 * (iabs x - iabs x / s * s) ≤ s from h)]))
  · exact Ev.to 27 (L1 := [_, _, _]) rfl (J _ (by rw [h_cq, if_neg (show ¬ 2 * (iabs x - iabs x / s * s) ≤ s from h)]))
theorem m_cut_no {n : Nat} {c : Int32} {tb : Nat → Int32} {tl : Nat} {se on : Nat → Int32} {dd : Int32} {ch : Nat → Int32} {fs fo : Int32} {cm : Nat} {ce li ke be : Nat → Int32} {s : Int32} (h : inw s 1 20 = false) : Cl m_X5_cut [.inr 0, .inl s] (mw n c tb tl se on dd ch fs fo cm ce li ke be) (some (.inl (-2))) (mw n c tb tl se on dd ch fs fo cm ce li ke be) := by
  refine Ev.to 999 rfl ?_
  refine Ev.callS (rest := []) rfl rfl (m_in _ _ _ _) ?_
  refine Ev.to 999 rfl ?_
  refine Ev.tt (bz_f h) ?_
  refine Ev.to 999 rfl ?_
  exact Ev.iret rfl rfl rfl rfl
def h_cb (E : Nat → Int32) (x : Nat) (f : Nat → Int32) : Nat → Int32 := upd f x (E x)
def h_cc (s : Int32) (k : Nat) (f : Nat → Int32) : Nat → Int32 := upd f k (h_cu (f k) s)
def h_cl (E B : Nat → Int32) (x : Nat) (a : Int32) : Int32 := if iabs (E x - B x) ≤ a then a else iabs (E x - B x)
theorem m_cut {n : Nat} {c : Int32} {tb : Nat → Int32} {tl : Nat} {se on : Nat → Int32} {dd : Int32} {ch : Nat → Int32} {fs fo : Int32} {cm : Nat} {ce li ke be : Nat → Int32} (hn : n ≤ 8) {s : Int32} (h : inw s 1 20 = true) (hs : s ≠ 0) : Cl m_X5_cut [.inr 0, .inl s] (mw n c tb tl se on dd ch fs fo cm ce li ke be) (some (.inl (fd (h_cl (h_E n c (fd (h_cc s) tb 64)) (fd (h_cb (h_E n c tb)) be (2 ^ n))) 0 (2 ^ n)))) (mw n c (fd (h_cc s) tb 64) tl se on dd ch fs fo cm ce li ke (fd (h_cb (h_E n c tb)) be (2 ^ n))) := by
  obtain ⟨hp1, hp2⟩ := pw_le hn
  refine Ev.to 999 rfl ?_
  refine Ev.callS (rest := []) rfl rfl (m_in _ _ _ _) ?_
  refine Ev.to 999 rfl ?_
  refine Ev.ff (by rw [bz_t h]; decide) ?_
  refine Ev.to 15 (L1 := [_, _, _, _, _]) (st1 := []) rfl ?_
  refine Ev.loop (fun x => [some (.inr 0), some (.inl s), some (.inl (nI x)), none, none]) (fun x => (mw n c tb tl se on dd ch fs fo cm ce li ke (fd (h_cb (h_E n c tb)) be x))) (fun _ => True) 0 (2 ^ n) (Nat.zero_le _) trivial (fun x _ hx _ kk => ?_) (fun _ => ?_)
  · have kk := kk trivial
    rw [nI_succ, fd, h_cb] at kk
    refine Ev.to 999 rfl ?_
    refine Ev.ff (m_pw hn hx) ?_
    refine Ev.to 999 rfl ?_
    refine Ev.callV (rest := [_, _]) rfl rfl (m_energyOf hn _) ?_
    refine Ev.ast rfl rfl (by omega) (by decide) ?_
    exact Ev.to 15 (L1 := [_, _, _, _, _]) rfl kk
  · generalize fd (h_cb (h_E n c tb)) be (2 ^ n) = B
    refine Ev.to 999 rfl ?_
    refine Ev.tt (m_pw' hn) ?_
    refine Ev.to 44 (L1 := [_, _, _, _, _]) (st1 := []) rfl ?_
    refine Ev.loop (fun k => [some (.inr 0), some (.inl s), some (.inl (nI k)), none, none]) (fun k => (mw n c (fd (h_cc s) tb k) tl se on dd ch fs fo cm ce li ke (B))) (fun _ => True) 0 64 (by omega) trivial (fun k _ hk _ kk => ?_) (fun _ => ?_)
    · have kk := kk trivial
      rw [nI_succ, fd, h_cc] at kk
      generalize fd (h_cc s) tb k = F at kk ⊢
      generalize fd (h_cc s) tb 64 = F64 at kk ⊢
      refine Ev.to 999 rfl ?_
      refine Ev.ff (nI_ng (n := 64) hk (by omega)) ?_
      refine Ev.to 999 rfl ?_
      refine Ev.ald rfl rfl hk (by decide) ?_
      refine Ev.to 999 rfl ?_
      refine Ev.callS (rest := [_, _]) rfl rfl (m_cutOf _ hs _) ?_
      refine Ev.ast rfl rfl hk (by decide) ?_
      exact Ev.to 44 (L1 := [_, _, _, _, _]) rfl kk
    · generalize fd (h_cc s) tb 64 = T
      refine Ev.to 999 (pc1 := 72) rfl ?_
      refine Ev.to 76 (L1 := [_, _, _, _, _]) (st1 := []) rfl ?_
      refine Ev.loop (fun x => [some (.inr 0), some (.inl s), some (.inl (fd (h_cl (h_E n c T) B) 0 x)), some (.inl (nI x)), none]) (fun _ => (mw n c (T) tl se on dd ch fs fo cm ce li ke (B))) (fun _ => True) 0 (2 ^ n) (Nat.zero_le _) trivial (fun x _ hx _ kk => ?_) (fun _ => ?_)
      · have kk := kk trivial
        rw [nI_succ, fd, h_cl] at kk
        generalize fd (h_cl (h_E n c T) B) 0 x = a at kk ⊢
        generalize (some (Sum.inl (fd (h_cl (h_E n c T) B) 0 (2 ^ n))) : Option ix_V) = res at kk ⊢
        refine Ev.to 999 rfl ?_
        refine Ev.ff (m_pw hn hx) ?_
        refine Ev.to 999 rfl ?_
        refine Ev.callV (rest := []) rfl rfl (m_energyOf hn _) ?_
        refine Ev.to 999 rfl ?_
        refine Ev.ald rfl rfl (by omega) (by decide) ?_
        refine Ev.to 999 rfl ?_
        refine Ev.callS (rest := []) rfl rfl (m_size _ _) ?_
        change Ev _ _ _ (.inl (iabs (h_E n c T x - B x)) :: _) _ _
        generalize iabs (h_E n c T x - B x) = y at kk ⊢
        refine Ev.to 999 (L1 := [_, _, _, _, _]) rfl ?_
        refine Ev.if_ (fun h1 => ?_) (fun h1 => ?_)
        · rw [if_pos h1] at kk
          exact Ev.to 76 (L1 := [_, _, _, _, _]) rfl (Ev.fg kk (le_cc (le_cc (le_cc (le_cc (le_nc le_nil))))))
        · rw [if_neg h1] at kk
          exact Ev.to 76 (L1 := [_, _, _, _, _]) rfl (Ev.fg kk (le_cc (le_cc (le_cc (le_cc (le_nc le_nil))))))
      · refine Ev.to 999 rfl ?_
        refine Ev.tt (m_pw' hn) ?_
        refine Ev.to 999 rfl ?_
        exact Ev.iret rfl rfl rfl rfl
/-! walk -/
theorem m_walk_no {n : Nat} {c : Int32} {tb : Nat → Int32} {tl : Nat} {se on : Nat → Int32} {dd : Int32} {ch : Nat → Int32} {fs fo : Int32} {cm : Nat} {ce li ke be : Nat → Int32} (hn : n ≤ 8) {s d h m x : Int32} (hk : g_wok n s h m x = false) : Cl m_X5_walk [.inr 0, .inl s, .inl d, .inl h, .inl m, .inl x] (mw n c tb tl se on dd ch fs fo cm ce li ke be) (some (.inl (-2147483648))) (mw n c tb tl se on dd ch fs fo cm ce li ke be) := by
  have no : Ev m_X5_walk 40 [some (.inr 0), some (.inl s), some (.inl d), some (.inl h), some (.inl m), some (.inl x), none, none, none, none, none, none, none, none] [] (mw n c tb tl se on dd ch fs fo cm ce li ke be) (some (.inl (-2147483648)), (mw n c tb tl se on dd ch fs fo cm ce li ke be)) := by
    refine Ev.to 999 rfl ?_
    exact Ev.iret rfl rfl rfl rfl
  refine Ev.to 999 rfl ?_
  refine Ev.callV (rest := []) rfl rfl (m_isState hn _) ?_
  refine Ev.to 999 rfl ?_
  refine Ev.on (fun _ => no) (fun h1 => ?_)
  refine Ev.to 999 rfl ?_
  refine Ev.callS (rest := []) rfl rfl (m_in _ _ _ _) ?_
  refine Ev.to 999 rfl ?_
  refine Ev.on (fun _ => no) (fun h2 => ?_)
  refine Ev.to 999 rfl ?_
  refine Ev.callS (rest := []) rfl rfl (m_in _ _ _ _) ?_
  refine Ev.to 999 rfl ?_
  refine Ev.on (fun _ => no) (fun h3 => ?_)
  refine Ev.to 999 rfl ?_
  refine Ev.callS (rest := []) rfl rfl (m_in _ _ _ _) ?_
  refine Ev.to 999 rfl ?_
  refine Ev.on (fun _ => no) (fun h4 => ?_)
  rw [g_wok, h1, h2, h3, h4] at hk
  exact absurd hk (by decide)
theorem m_walk_end {n : Nat} {c : Int32} {tb : Nat → Int32} {tl : Nat} {se on : Nat → Int32} {dd : Int32} {ch : Nat → Int32} {fs fo : Int32} {cm : Nat} {ce li ke be : Nat → Int32} {z1 z2 z3 z4 z6 z7 z9 z11 z12 z13 : Option ix_V} (x h l : Int32) : Ev m_X5_walk 185 [some (.inr 0), z1, z2, z3, z4, some (.inl x), z6, z7, some (.inl h), z9, some (.inl l), z11, z12, z13] [] (mw n c tb tl se on dd ch fs fo cm ce li ke be) (some (.inl (if x = 0 then h else l)), (mw n c tb tl se on dd ch fs fo cm ce li ke be)) := by
  refine Ev.to 999 rfl ?_
  refine Ev.if_ (fun h => ?_) (fun h => ?_)
  · refine Ev.to 999 rfl ?_
    exact Ev.iret rfl rfl (by rw [if_pos h]) rfl
  · refine Ev.to 999 rfl ?_
    exact Ev.iret rfl rfl (by rw [if_neg h]) rfl
def h_wo (n : Nat) (z h : Int32) : Int32 := h ^^^ ((1 : Int32) <<< (nI (w_l n z) &&& 31))
def h_wm (a l : Int32) : Int32 := if l ≤ a then l else a
def h_wk (n : Nat) (c : Int32) (tb : Nat → Int32) (j : Nat) (p : w_S) : w_S := if h_en n c tb (h_wo n p.1 p.2.2.1) - p.2.2.2.1 ≤ w_t p.1 p.2.1 then (w_z p.1, w_n j p.2.1, h_wo n p.1 p.2.2.1, h_en n c tb (h_wo n p.1 p.2.2.1), h_wm (h_en n c tb (h_wo n p.1 p.2.2.1)) p.2.2.2.2) else (w_z p.1, w_n j p.2.1, p.2.2.1, p.2.2.2.1, h_wm p.2.2.2.1 p.2.2.2.2)
theorem h_wk_le (n : Nat) (c : Int32) (tb : Nat → Int32) (p : w_S) (j : Nat) : (fd (h_wk n c tb) p j).2.1 ≤ p.2.1 := by
  induction j with
  | zero => exact Nat.le_refl _
  | succ j ih =>
    rw [fd, h_wk]
    split
    · exact Nat.le_trans (w_n_le _ _) ih
    · exact Nat.le_trans (w_n_le _ _) ih
theorem m_walk {n : Nat} {c : Int32} {tb : Nat → Int32} {tl : Nat} {se on : Nat → Int32} {dd : Int32} {ch : Nat → Int32} {fs fo : Int32} {cm : Nat} {ce li ke be : Nat → Int32} (hn : n ≤ 8) (hn1 : 1 ≤ n) {s d x : Int32} {ht m : Nat} (hh : ht ≤ 100) (hm : m ≤ 200) (hk : g_wok n s (nI ht) (nI m) x = true) : Cl m_X5_walk [.inr 0, .inl s, .inl d, .inl (nI ht), .inl (nI m), .inl x] (mw n c tb tl se on dd ch fs fo cm ce li ke be) (some (.inl (if x = 0 then (fd (h_wk n c tb) (d, ht, s, h_en n c tb s, h_en n c tb s) m).2.2.1 else (fd (h_wk n c tb) (d, ht, s, h_en n c tb s, h_en n c tb s) m).2.2.2.2))) (mw n c tb tl se on dd ch fs fo cm ce li ke be) := by
  rw [g_wok, Bool.and_eq_true, Bool.and_eq_true, Bool.and_eq_true] at hk
  obtain ⟨k1, k2, k3, k4⟩ := hk
  refine Ev.to 999 rfl ?_
  refine Ev.callV (rest := []) rfl rfl (m_isState hn _) ?_
  refine Ev.to 999 rfl ?_
  refine Ev.ff (by rw [bz_t k1]; decide) ?_
  refine Ev.to 999 rfl ?_
  refine Ev.callS (rest := []) rfl rfl (m_in _ _ _ _) ?_
  refine Ev.to 999 rfl ?_
  refine Ev.ff (by rw [bz_t k2]; decide) ?_
  refine Ev.to 999 rfl ?_
  refine Ev.callS (rest := []) rfl rfl (m_in _ _ _ _) ?_
  refine Ev.to 999 rfl ?_
  refine Ev.ff (by rw [bz_t k3]; decide) ?_
  refine Ev.to 999 rfl ?_
  refine Ev.callS (rest := []) rfl rfl (m_in _ _ _ _) ?_
  refine Ev.to 999 rfl ?_
  refine Ev.ff (by rw [bz_t k4]; decide) ?_
  refine Ev.to 999 (L1 := [_, _, _, _, _, _, _, _, _, _, _, _, _, _]) rfl ?_
  refine Ev.callV (rest := []) rfl rfl (m_energyOf hn _) ?_
  generalize h_en n c tb s = e0
  refine Ev.to 67 (L1 := [_, _, _, _, _, _, _, _, _, _, _, _, _, _]) (st1 := []) rfl ?_
  refine Ev.loop (fun j => [some (.inr 0), some (.inl s), some (.inl d), some (.inl (nI ht)), some (.inl (nI m)), some (.inl x), some (.inl (fd (h_wk n c tb) (d, ht, s, e0, e0) j).1), some (.inl (nI (fd (h_wk n c tb) (d, ht, s, e0, e0) j).2.1)), some (.inl (fd (h_wk n c tb) (d, ht, s, e0, e0) j).2.2.1), some (.inl (fd (h_wk n c tb) (d, ht, s, e0, e0) j).2.2.2.1), some (.inl (fd (h_wk n c tb) (d, ht, s, e0, e0) j).2.2.2.2), some (.inl (nI (j + 1))), none, none]) (fun _ => (mw n c tb tl se on dd ch fs fo cm ce li ke be)) (fun _ => True) 0 m (Nat.zero_le m) trivial (fun j _ hj _ kk => ?_) (fun _ => ?_)
  · have kk := kk trivial
    have hle := h_wk_le n c tb (d, ht, s, e0, e0) j
    rw [nI_succ (j + 1), fd, h_wk] at kk
    generalize fd (h_wk n c tb) (d, ht, s, e0, e0) j = p at kk hle ⊢
    generalize (some (Sum.inl (if x = 0 then (fd (h_wk n c tb) (d, ht, s, e0, e0) m).2.2.1 else (fd (h_wk n c tb) (d, ht, s, e0, e0) m).2.2.2.2)) : Option ix_V) = res at kk ⊢
    obtain ⟨z, t, h, e, l⟩ := p
    dsimp only at kk hle ⊢
    obtain ⟨hz1, hz2⟩ := w_zq z
    have hlt : w_l n z < n := Nat.mod_lt _ (by omega)
    refine Ev.to 999 rfl ?_
    refine Ev.ff (nI_ngt (by omega) (by omega)) ?_
    refine Ev.to 88 (L1 := [_, _, _, _, _, _, some (.inl (w_z z)), _, _, _, _, _, _, _]) (st1 := []) rfl ?_
    rw [hz1] at kk ⊢
    refine Ev.to 999 rfl ?_
    refine Ev.dv rfl (by decide) ?_
    rw [show nI (w_q z) / 65536 = nI (w_q z / 65536) from pk_div (d := 65536) hz2 (by omega) (by omega)]
    refine Ev.to 999 rfl ?_
    refine Ev.rm rfl (ne_nat (by omega) (by omega)) ?_
    rw [pk_rem (d := n) (Nat.lt_of_le_of_lt (Nat.div_le_self _ _) hz2) (by omega) (by omega)]
    change Ev _ _ _ (.inl (nI (w_l n z)) :: _) _ _
    refine Ev.to 105 (L1 := [_, _, _, _, _, _, _, _, _, _, _, _, some (.inl (h_wo n z h)), _]) (st1 := []) rfl ?_
    refine Ev.to 999 rfl ?_
    refine Ev.callV (rest := []) rfl rfl (m_energyOf hn _) ?_
    generalize h_en n c tb (h_wo n z h) = v at kk ⊢
    generalize h_wo n z h = o at kk ⊢
    refine Ev.to 999 (L1 := [_, _, _, _, _, _, _, _, _, _, _, _, _, _]) rfl ?_
    refine Ev.dv rfl (by decide) ?_
    rw [show nI (w_q z) / 256 = nI (w_q z / 256) from pk_div (d := 256) hz2 (by omega) (by omega)]
    refine Ev.to 999 rfl ?_
    refine Ev.rm rfl (by show nI t + 1 ≠ 0; rw [nI_1]; exact ne_nat (by omega) (by omega)) ?_
    have et : (nI (w_q z / 256) - nI (w_q z / 256) / (nI t + 1) * (nI t + 1)) = w_t z t := by
      rw [nI_1]; exact pk_rem (d := t + 1) (Nat.lt_of_le_of_lt (Nat.div_le_self _ _) hz2) (by omega) (by omega)
    change Ev _ _ _ (.inl (nI (w_q z / 256) - nI (w_q z / 256) / (nI t + 1) * (nI t + 1)) :: _) _ _
    rw [et]
    generalize w_t z t = T at kk ⊢
    -- the tail: every tenth move
    have tail : ∀ (h2 e2 l2 : Int32) (z12 z13 : Option ix_V), Ev m_X5_walk 67 [some (.inr 0), some (.inl s), some (.inl d), some (.inl (nI ht)), some (.inl (nI m)), some (.inl x), some (.inl (nI (w_q z))), some (.inl (nI (w_n j t))), some (.inl h2), some (.inl e2), some (.inl l2), some (.inl (nI (j + 1) + 1)), none, none] [] (mw n c tb tl se on dd ch fs fo cm ce li ke be) (res, (mw n c tb tl se on dd ch fs fo cm ce li ke be)) → Ev m_X5_walk 156 [some (.inr 0), some (.inl s), some (.inl d), some (.inl (nI ht)), some (.inl (nI m)), some (.inl x), some (.inl (nI (w_q z))), some (.inl (nI t)), some (.inl h2), some (.inl e2), some (.inl l2), some (.inl (nI (j + 1))), z12, z13] [] (mw n c tb tl se on dd ch fs fo cm ce li ke be) (res, (mw n c tb tl se on dd ch fs fo cm ce li ke be)) := by
      intro h2 e2 l2 z12 z13 k2
      refine Ev.to 999 rfl ?_
      refine Ev.rm rfl (by decide) ?_
      rw [show nI (j + 1) - nI (j + 1) / 10 * 10 = nI ((j + 1) % 10) from pk_rem (d := 10) (by omega) (by omega) (by omega)]
      refine Ev.to 999 rfl ?_
      refine Ev.if_ (fun h5 => ?_) (fun h5 => ?_)
      · have h6 : (j + 1) % 10 = 0 := (nI_eq (b := 0) (by omega) (by omega)).mp h5
        rw [w_n, if_pos h6] at k2
        refine Ev.to 999 rfl ?_
        refine Ev.dv rfl (by decide) ?_
        have e9 : nI t * 9 / 10 = nI (t * 9 / 10) := by
          rw [show nI t * 9 = nI (t * 9) from pk_mul t 9]
          exact pk_div (d := 10) (by omega) (by omega) (by omega)
        refine Ev.to 67 (L1 := [_, _, _, _, _, _, _, some (.inl (nI t * 9 / 10)), _, _, _, _, _, _]) (st1 := []) rfl ?_
        rw [e9]
        exact Ev.fg k2 (le_cc (le_cc (le_cc (le_cc (le_cc (le_cc (le_cc (le_cc (le_cc (le_cc (le_cc (le_cc (le_nc (le_nc le_nil))))))))))))))
      · have h6 : ¬ (j + 1) % 10 = 0 := fun q => h5 ((nI_eq (b := 0) (by omega) (by omega)).mpr q)
        rw [w_n, if_neg h6] at k2
        exact Ev.to 67 (L1 := [_, _, _, _, _, _, _, _, _, _, _, _, _, _]) rfl (Ev.fg k2 (le_cc (le_cc (le_cc (le_cc (le_cc (le_cc (le_cc (le_cc (le_cc (le_cc (le_cc (le_cc (le_nc (le_nc le_nil)))))))))))))))
    have least : ∀ (h2 e2 : Int32) (z12 z13 : Option ix_V), Ev m_X5_walk 67 [some (.inr 0), some (.inl s), some (.inl d), some (.inl (nI ht)), some (.inl (nI m)), some (.inl x), some (.inl (nI (w_q z))), some (.inl (nI (w_n j t))), some (.inl h2), some (.inl e2), some (.inl (h_wm e2 l)), some (.inl (nI (j + 1) + 1)), none, none] [] (mw n c tb tl se on dd ch fs fo cm ce li ke be) (res, (mw n c tb tl se on dd ch fs fo cm ce li ke be)) → Ev m_X5_walk 140 [some (.inr 0), some (.inl s), some (.inl d), some (.inl (nI ht)), some (.inl (nI m)), some (.inl x), some (.inl (nI (w_q z))), some (.inl (nI t)), some (.inl h2), some (.inl e2), some (.inl l), some (.inl (nI (j + 1))), z12, z13] [] (mw n c tb tl se on dd ch fs fo cm ce li ke be) (res, (mw n c tb tl se on dd ch fs fo cm ce li ke be)) := by
      intro h2 e2 z12 z13 k2
      refine Ev.to 999 rfl ?_
      refine Ev.if_ (fun h5 => ?_) (fun h5 => ?_)
      · rw [h_wm, if_pos h5] at k2
        exact Ev.to 156 (L1 := [_, _, _, _, _, _, _, _, _, _, _, _, _, _]) rfl (tail _ _ _ _ _ k2)
      · rw [h_wm, if_neg h5] at k2
        exact Ev.to 156 (L1 := [_, _, _, _, _, _, _, _, _, _, _, _, _, _]) rfl (tail _ _ _ _ _ k2)
    refine Ev.to 999 rfl ?_
    refine Ev.if_ (fun h5 => ?_) (fun h5 => ?_)
    · rw [if_neg (fun z => i32_nlt.mpr z h5)] at kk
      exact least _ _ _ _ kk
    · rw [if_pos (i32_nlt.mp h5)] at kk
      exact Ev.to 140 (L1 := [_, _, _, _, _, _, _, _, _, _, _, _, _, _]) rfl (least _ _ _ _ kk)
  · refine Ev.to 999 rfl ?_
    refine Ev.tt (nI_gt1 (by omega)) ?_
    exact m_walk_end _ _ _
/-! count -/
theorem m_count_no {n : Nat} {c : Int32} {tb : Nat → Int32} {tl : Nat} {se on : Nat → Int32} {dd : Int32} {ch : Nat → Int32} {fs fo : Int32} {cm : Nat} {ce li ke be : Nat → Int32} {x : Int32} (h : x.toInt < 0 ∨ 5 < x.toInt) : Cl m_X5_count [.inr 0, .inl x] (mw n c tb tl se on dd ch fs fo cm ce li ke be) (some (.inl (-2147483648))) (mw n c tb tl se on dd ch fs fo cm ce li ke be) := by
  refine Ev.to 999 (L1 := [_, _, _, _, _]) rfl ?_
  refine Ev.tsO rfl h (tgt := 124) (by decide) ?_
  refine Ev.to 999 rfl ?_
  exact Ev.iret rfl rfl rfl rfl
theorem m_count0 {n : Nat} {c : Int32} {tb : Nat → Int32} {tl : Nat} {se on : Nat → Int32} {dd : Int32} {ch : Nat → Int32} {fs fo : Int32} {cm : Nat} {ce li ke be : Nat → Int32} : Cl m_X5_count [.inr 0, .inl 0] (mw n c tb tl se on dd ch fs fo cm ce li ke be) (some (.inl (nI n))) (mw n c tb tl se on dd ch fs fo cm ce li ke be) := by
  refine Ev.to 999 (L1 := [_, _, _, _, _]) rfl ?_
  refine Ev.st1 (pc1 := 40) rfl rfl rfl ?_
  refine Ev.to 999 rfl ?_
  exact Ev.iret rfl rfl rfl rfl
def h_wp (tb : Nat → Int32) (i j : Nat) (a : Int32) : Int32 := a + (if tb (8 * i + j) = 0 then 0 else 1)
def h_wpr (tb : Nat → Int32) (i : Nat) (a : Int32) : Int32 := fd (h_wp tb i) a i
theorem m_count1 {n : Nat} {c : Int32} {tb : Nat → Int32} {tl : Nat} {se on : Nat → Int32} {dd : Int32} {ch : Nat → Int32} {fs fo : Int32} {cm : Nat} {ce li ke be : Nat → Int32} (hn : n ≤ 8) : Cl m_X5_count [.inr 0, .inl 1] (mw n c tb tl se on dd ch fs fo cm ce li ke be) (some (.inl (fd (h_wpr tb) 0 n))) (mw n c tb tl se on dd ch fs fo cm ce li ke be) := by
  refine Ev.to 999 (L1 := [_, _, _, _, _]) rfl ?_
  refine Ev.st1 (pc1 := 45) rfl rfl rfl ?_
  refine Ev.to 47 (L1 := [_, _, _, _, _]) (st1 := []) rfl ?_
  refine Ev.loop (fun i => [some (.inr 0), some (.inl 1), some (.inl (fd (h_wpr tb) 0 i)), some (.inl (nI i)), none]) (fun _ => (mw n c tb tl se on dd ch fs fo cm ce li ke be)) (fun _ => True) 0 n (Nat.zero_le n) trivial (fun i _ hi _ kk => ?_) (fun _ => ?_)
  · have kk := kk trivial
    rw [nI_succ, fd, h_wpr] at kk
    refine Ev.to 999 rfl ?_
    refine Ev.ff (nI_ng hi (by omega)) ?_
    generalize fd (h_wpr tb) 0 i = a0 at kk ⊢
    refine Ev.to 58 (L1 := [_, _, _, _, _]) (st1 := []) rfl ?_
    refine Ev.loop (fun j => [some (.inr 0), some (.inl 1), some (.inl (fd (h_wp tb i) a0 j)), some (.inl (nI i)), some (.inl (nI j))]) (fun _ => (mw n c tb tl se on dd ch fs fo cm ce li ke be)) (fun _ => True) 0 i (Nat.zero_le i) trivial (fun j _ hj _ k2 => ?_) (fun _ => ?_)
    · have k2 := k2 trivial
      rw [nI_succ, fd, h_wp] at k2
      refine Ev.to 999 rfl ?_
      refine Ev.ff (nI_ng hj (by omega)) ?_
      refine Ev.to 999 rfl ?_
      refine Ev.aldE (8 * i + j) (ni8' i j) rfl rfl (by omega) (by decide) ?_
      refine Ev.to 999 rfl ?_
      refine Ev.if_ (fun h => ?_) (fun h => ?_)
      · rw [if_pos h] at k2
        exact Ev.to 58 (L1 := [_, _, _, _, _]) rfl k2
      · rw [if_neg h] at k2
        exact Ev.to 58 (L1 := [_, _, _, _, _]) rfl k2
    · refine Ev.to 999 rfl ?_
      refine Ev.tt (nI_gg (by omega)) ?_
      exact Ev.to 47 (L1 := [_, _, _, _, _]) rfl (Ev.fg kk (le_cc (le_cc (le_cc (le_cc (le_nc le_nil))))))
  · refine Ev.to 999 rfl ?_
    refine Ev.tt (nI_gg (by omega)) ?_
    refine Ev.to 999 rfl ?_
    exact Ev.iret rfl rfl rfl rfl
theorem m_count2 {n : Nat} {c : Int32} {tb : Nat → Int32} {tl : Nat} {se on : Nat → Int32} {dd : Int32} {ch : Nat → Int32} {fs fo : Int32} {cm : Nat} {ce li ke be : Nat → Int32} : Cl m_X5_count [.inr 0, .inl 2] (mw n c tb tl se on dd ch fs fo cm ce li ke be) (some (.inl (nI tl))) (mw n c tb tl se on dd ch fs fo cm ce li ke be) := by
  refine Ev.to 999 (L1 := [_, _, _, _, _]) rfl ?_
  refine Ev.st1 (pc1 := 101) rfl rfl rfl ?_
  refine Ev.to 999 rfl ?_
  exact Ev.iret rfl rfl rfl rfl
theorem m_count3 {n : Nat} {c : Int32} {tb : Nat → Int32} {tl : Nat} {se on : Nat → Int32} {dd : Int32} {ch : Nat → Int32} {fs fo : Int32} {cm : Nat} {ce li ke be : Nat → Int32} : Cl m_X5_count [.inr 0, .inl 3] (mw n c tb tl se on dd ch fs fo cm ce li ke be) (some (.inl (io dd))) (mw n c tb tl se on dd ch fs fo cm ce li ke be) := by
  refine Ev.to 999 (L1 := [_, _, _, _, _]) rfl ?_
  refine Ev.st1 (pc1 := 106) rfl rfl rfl ?_
  refine Ev.to 999 rfl ?_
  refine Ev.callS rfl rfl (m_ones _ _) ?_
  exact Ev.iret rfl rfl rfl rfl
theorem m_count4 {n : Nat} {c : Int32} {tb : Nat → Int32} {tl : Nat} {se on : Nat → Int32} {dd : Int32} {ch : Nat → Int32} {fs fo : Int32} {cm : Nat} {ce li ke be : Nat → Int32} (hn : n ≤ 8) : Cl m_X5_count [.inr 0, .inl 4] (mw n c tb tl se on dd ch fs fo cm ce li ke be) (some (.inl (fd (h_tog ch) 0 n))) (mw n c tb tl se on dd ch fs fo cm ce li ke be) := by
  refine Ev.to 999 (L1 := [_, _, _, _, _]) rfl ?_
  refine Ev.st1 (pc1 := 114) rfl rfl rfl ?_
  refine Ev.to 999 rfl ?_
  refine Ev.callV rfl rfl (m_together hn) ?_
  exact Ev.iret rfl rfl rfl rfl
theorem m_count5 {n : Nat} {c : Int32} {tb : Nat → Int32} {tl : Nat} {se on : Nat → Int32} {dd : Int32} {ch : Nat → Int32} {fs fo : Int32} {cm : Nat} {ce li ke be : Nat → Int32} : Cl m_X5_count [.inr 0, .inl 5] (mw n c tb tl se on dd ch fs fo cm ce li ke be) (some (.inl c)) (mw n c tb tl se on dd ch fs fo cm ce li ke be) := by
  refine Ev.to 999 (L1 := [_, _, _, _, _]) rfl ?_
  refine Ev.st1 (pc1 := 119) rfl rfl rfl ?_
  refine Ev.to 999 rfl ?_
  exact Ev.iret rfl rfl rfl rfl
