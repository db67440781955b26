/-! the reference: pull, fixed, floor, kill, chain -/
def oany (o : Option Int32) : Int32 := match o with
  | none => 0
  | some _ => 1
def oval (o : Option Int32) : Int32 := match o with
  | none => 0
  | some v => v
def h_pk (E M : Nat → Int32) (s : Nat) (o : Option Int32) : Option Int32 := if M s = 0 then (match o with
  | none => some (E s)
  | some v => if v ≤ E s then some v else some (E s)) else o
def h_pm (E M : Nat → Int32) (kept : Int32) (s : Nat) (a : Int32) : Int32 := if 0 < M s ∧ 0 ≤ kept - E s then (if (kept - E s) / M s + 1 ≤ a then a else (kept - E s) / M s + 1) else a
abbrev h_E (n : Nat) (c : Int32) (tb : Nat → Int32) : Nat → Int32 := fun s => h_en n c tb (nI s)
abbrev h_M (tl : Nat) (se on : Nat → Int32) : Nat → Int32 := fun s => h_mis tl se on (nI s)
theorem m_pull_go {n : Nat} {c : Int32} {tb : Nat → Int32} {tl : Nat} {se on : Nat → Int32} {dd : Int32} {ch : Nat → Int32} {fs fo : Int32} {cm : Nat} {ce li ke be : Nat → Int32} (hn : n ≤ 8) (ht : tl ≤ 6) {x : Option ix_V × ix_W} (kk : Ev m_X5_pull 55 [some (.inr 0), some (.inl (oany (fd (h_pk (h_E n c tb) (h_M tl se on)) none (2 ^ n)))), some (.inl (oval (fd (h_pk (h_E n c tb) (h_M tl se on)) none (2 ^ n)))), some (.inl (nI (2 ^ n))), none, none, none] [] (mw n c tb tl se on dd ch fs fo cm ce li ke be) x) : Ev m_X5_pull 0 (ix_en m_X5_pull [.inr 0]) [] (mw n c tb tl se on dd ch fs fo cm ce li ke be) x := by
  obtain ⟨hp1, hp2⟩ := pw_le hn
  refine Ev.to 6 (L1 := [_, _, _, _, _, _, _]) (st1 := []) rfl ?_
  refine Ev.loop (fun s => [some (.inr 0), some (.inl (oany (fd (h_pk (h_E n c tb) (h_M tl se on)) none s))), some (.inl (oval (fd (h_pk (h_E n c tb) (h_M tl se on)) none s))), some (.inl (nI s)), none, none, none]) (fun _ => (mw n c tb tl se on dd ch fs fo cm ce li ke be)) (fun _ => True) 0 (2 ^ n) (Nat.zero_le _) trivial (fun s _ hs _ k2 => ?_) (fun _ => ?_)
  · have k2 := k2 trivial
    rw [nI_succ s, fd, h_pk.eq_def] at k2
    generalize fd (h_pk (h_E n c tb) (h_M tl se on)) none s = o at k2 ⊢
    refine Ev.to 999 rfl ?_
    refine Ev.ff (m_pw hn hs) ?_
    refine Ev.to 999 rfl ?_
    refine Ev.callV (rest := []) rfl rfl (m_missed ht _) ?_
    refine Ev.to 999 rfl ?_
    refine Ev.if_ (fun h => ?_) (fun h => ?_)
    · rw [if_pos h] at k2
      refine Ev.to 999 rfl ?_
      cases o with
      | none =>
        refine Ev.to 999 (pc1 := 39) rfl ?_
        refine Ev.callV (rest := []) rfl rfl (m_energyOf hn _) ?_
        exact Ev.to 6 (L1 := [_, _, _, _, _, _, _]) rfl k2
      | some v =>
        dsimp only at k2
        refine Ev.to 999 (pc1 := 30) rfl ?_
        refine Ev.callV (rest := []) rfl rfl (m_energyOf hn _) ?_
        refine Ev.to 999 rfl ?_
        refine Ev.if_ (fun h2 => ?_) (fun h2 => ?_)
        · rw [if_pos (show v ≤ h_E n c tb s from h2)] at k2
          exact Ev.to 6 (L1 := [_, _, _, _, _, _, _]) rfl k2
        · rw [if_neg (show ¬ v ≤ h_E n c tb s from h2)] at k2
          refine Ev.to 999 rfl ?_
          refine Ev.callV (rest := []) rfl rfl (m_energyOf hn _) ?_
          exact Ev.to 6 (L1 := [_, _, _, _, _, _, _]) rfl k2
    · rw [if_neg h] at k2
      exact Ev.to 6 (L1 := [_, _, _, _, _, _, _]) rfl k2
  · refine Ev.to 999 rfl ?_
    refine Ev.tt (m_pw' hn) ?_
    exact kk
theorem m_pull_no {n : Nat} {c : Int32} {tb : Nat → Int32} {tl : Nat} {se on : Nat → Int32} {dd : Int32} {ch : Nat → Int32} {fs fo : Int32} {cm : Nat} {ce li ke be : Nat → Int32} (hn : n ≤ 8) (ht : tl ≤ 6) (h : fd (h_pk (h_E n c tb) (h_M tl se on)) none (2 ^ n) = none) : Cl m_X5_pull [.inr 0] (mw n c tb tl se on dd ch fs fo cm ce li ke be) (some (.inl (-1))) (mw n c tb tl se on dd ch fs fo cm ce li ke be) := by
  refine m_pull_go hn ht ?_
  rw [h]
  refine Ev.to 999 (pc1 := 59) rfl ?_
  refine Ev.to 999 rfl ?_
  exact Ev.iret rfl rfl rfl rfl
theorem m_pull {n : Nat} {c : Int32} {tb : Nat → Int32} {tl : Nat} {se on : Nat → Int32} {dd : Int32} {ch : Nat → Int32} {fs fo : Int32} {cm : Nat} {ce li ke be : Nat → Int32} (hn : n ≤ 8) (ht : tl ≤ 6) {v : Int32} (h : fd (h_pk (h_E n c tb) (h_M tl se on)) none (2 ^ n) = some v) : Cl m_X5_pull [.inr 0] (mw n c tb tl se on dd ch fs fo cm ce li ke be) (some (.inl (if fd (h_pm (h_E n c tb) (h_M tl se on) v) 0 (2 ^ n) ≤ 1000 then fd (h_pm (h_E n c tb) (h_M tl se on) v) 0 (2 ^ n) else 1001))) (mw n c tb tl se on dd ch fs fo cm ce li ke be) := by
  obtain ⟨hp1, hp2⟩ := pw_le hn
  refine m_pull_go hn ht ?_
  rw [h]
  refine Ev.to 999 (pc1 := 61) rfl ?_
  refine Ev.to 66 (L1 := [_, _, _, _, _, _, _]) (st1 := []) rfl ?_
  show Ev _ _ [_, some (.inl 1), some (.inl v), _, _, _, _] _ _ _
  refine Ev.loop (fun s => [some (.inr 0), some (.inl 1), some (.inl v), some (.inl (fd (h_pm (h_E n c tb) (h_M tl se on) v) 0 s)), some (.inl (nI s)), none, none]) (fun _ => (mw n c tb tl se on dd ch fs fo cm ce li ke be)) (fun _ => True) 0 (2 ^ n) (Nat.zero_le _) trivial (fun s _ hs _ kk => ?_) (fun _ => ?_)
  · have kk := kk trivial
    rw [nI_succ s, fd, h_pm] at kk
    generalize fd (h_pm (h_E n c tb) (h_M tl se on) v) 0 s = a at kk ⊢
    refine Ev.to 999 rfl ?_
    refine Ev.ff (m_pw hn hs) ?_
    refine Ev.to 999 rfl ?_
    refine Ev.callV (rest := [_]) rfl rfl (m_energyOf hn _) ?_
    refine Ev.to 999 (L1 := [_, _, _, _, _, _, _]) rfl ?_
    refine Ev.callV (rest := []) rfl rfl (m_missed ht _) ?_
    refine Ev.to 999 rfl ?_
    refine Ev.if_ (fun h1 => ?_) (fun h1 => ?_)
    · rw [if_neg (fun z => i32_nlt.mpr h1 z.1)] at kk
      exact Ev.to 66 (L1 := [_, _, _, _, _, _, _]) rfl (Ev.fg kk (le_cc (le_cc (le_cc (le_cc (le_cc (le_nc (le_nc le_nil))))))))
    · have h1 := i32_nle.mp h1
      refine Ev.to 999 rfl ?_
      refine Ev.if_ (fun h2 => ?_) (fun h2 => ?_)
      · rw [if_neg (fun z => i32_nlt.mpr z.2 h2)] at kk
        exact Ev.to 66 (L1 := [_, _, _, _, _, _, _]) rfl (Ev.fg kk (le_cc (le_cc (le_cc (le_cc (le_cc (le_nc (le_nc le_nil))))))))
      · rw [if_pos ⟨h1, i32_nlt.mp h2⟩] at kk
        refine Ev.to 999 rfl ?_
        refine Ev.callV (rest := [_]) rfl rfl (m_missed ht _) ?_
        refine Ev.dv rfl (fun z => by rw [z] at h1; exact absurd h1 (by decide)) ?_
        refine Ev.to 999 (L1 := [_, _, _, _, _, _, _]) rfl ?_
        refine Ev.if_ (fun h3 => ?_) (fun h3 => ?_)
        · rw [if_pos h3] at kk
          exact Ev.to 66 (L1 := [_, _, _, _, _, _, _]) rfl (Ev.fg kk (le_cc (le_cc (le_cc (le_cc (le_cc (le_nc (le_nc le_nil))))))))
        · rw [if_neg h3] at kk
          exact Ev.to 66 (L1 := [_, _, _, _, _, _, _]) rfl (Ev.fg kk (le_cc (le_cc (le_cc (le_cc (le_cc (le_nc (le_nc le_nil))))))))
  · generalize fd (h_pm (h_E n c tb) (h_M tl se on) v) 0 (2 ^ n) = a
    refine Ev.to 999 rfl ?_
    refine Ev.tt (m_pw' hn) ?_
    refine Ev.to 999 rfl ?_
    refine Ev.if_ (fun h1 => ?_) (fun h1 => ?_)
    · rw [if_pos h1]
      refine Ev.to 999 rfl ?_
      exact Ev.iret rfl rfl rfl rfl
    · rw [if_neg h1]
      refine Ev.to 999 rfl ?_
      exact Ev.iret rfl rfl rfl rfl
/-! fixed -/
def h_w (tb : Nat → Int32) (i j : Nat) : Int32 := if i = j then 0 else tb (8 * i + j)
def h_mo (tb : Nat → Int32) (i : Nat) (s o : Int32) (j : Nat) (a : Int32) : Int32 := if bb s j = true then a + (if bb o j = true then h_w tb i j else 0) else a
def h_ml (tb : Nat → Int32) (i : Nat) (s : Int32) (j : Nat) (a : Int32) : Int32 := if bb s j = true then a else a + (if 0 ≤ h_w tb i j then 0 else h_w tb i j)
def h_mm (tb : Nat → Int32) (i : Nat) (s : Int32) (j : Nat) (a : Int32) : Int32 := if bb s j = true then a else a + (if h_w tb i j ≤ 0 then 0 else h_w tb i j)
def h_mb (n : Nat) (tb : Nat → Int32) (i : Nat) (s o : Int32) : Int32 := if fd (h_mo tb i s o) (tb (8 * i + i)) n + fd (h_ml tb i s) 0 n < 0 then (if 0 < fd (h_mo tb i s o) (tb (8 * i + i)) n + fd (h_mm tb i s) 0 n then -1 else 1) else 0
theorem m_mayBe {n : Nat} {c : Int32} {tb : Nat → Int32} {tl : Nat} {se on : Nat → Int32} {dd : Int32} {ch : Nat → Int32} {fs fo : Int32} {cm : Nat} {ce li ke be : Nat → Int32} (hn : n ≤ 8) {i : Nat} (hi : i < 8) : Cl m_X5_mayBe [.inr 0, .inl (nI i)] (mw n c tb tl se on dd ch fs fo cm ce li ke be) (some (.inl (h_mb n tb i fs fo))) (mw n c tb tl se on dd ch fs fo cm ce li ke be) := by
  rw [h_mb]
  refine Ev.to 999 rfl ?_
  refine Ev.aldE (8 * i + i) (ni8' i i) rfl rfl (by omega) (by decide) ?_
  refine Ev.to 20 (L1 := [_, _, _, _, _, _, _]) (st1 := []) rfl ?_
  refine Ev.loop (fun j => [some (.inr 0), some (.inl (nI i)), some (.inl (fd (h_mo tb i fs fo) (tb (8 * i + i)) j)), some (.inl (fd (h_ml tb i fs) 0 j)), some (.inl (fd (h_mm tb i fs) 0 j)), some (.inl (nI j)), none]) (fun _ => (mw n c tb tl se on dd ch fs fo cm ce li ke be)) (fun _ => True) 0 n (Nat.zero_le n) trivial (fun j _ hj _ kk => ?_) (fun _ => ?_)
  · have kk := kk trivial
    rw [nI_succ, fd, fd, fd, h_mo, h_ml, h_mm] at kk
    generalize fd (h_mo tb i fs fo) (tb (8 * i + i)) j = a1 at kk ⊢
    generalize fd (h_ml tb i fs) 0 j = a2 at kk ⊢
    generalize fd (h_mm tb i fs) 0 j = a3 at kk ⊢
    have J : ∀ v, h_w tb i j = v → Ev m_X5_mayBe 51 [some (.inr 0), some (.inl (nI i)), some (.inl a1), some (.inl a2), some (.inl a3), some (.inl (nI j)), none] [.inl v] (mw n c tb tl se on dd ch fs fo cm ce li ke be) (some (.inl (if fd (h_mo tb i fs fo) (tb (8 * i + i)) n + fd (h_ml tb i fs) 0 n < 0 then (if 0 < fd (h_mo tb i fs fo) (tb (8 * i + i)) n + fd (h_mm tb i fs) 0 n then -1 else 1) else 0)), (mw n c tb tl se on dd ch fs fo cm ce li ke be)) := by
      intro v hv
      rw [hv] at kk
      generalize (some (Sum.inl (if fd (h_mo tb i fs fo) (tb (8 * i + i)) n + fd (h_ml tb i fs) 0 n < 0 then (if 0 < fd (h_mo tb i fs fo) (tb (8 * i + i)) n + fd (h_mm tb i fs) 0 n then -1 else 1) else 0)) : Option ix_V) = res at kk ⊢
      refine Ev.to 999 (L1 := [_, _, _, _, _, _, _]) rfl ?_
      refine Ev.if_ (fun h => ?_) (fun h => ?_)
      · have hb := (bb1 (by omega)).mp h
        rw [if_pos hb, if_pos hb, if_pos hb] at kk
        refine Ev.to 999 rfl ?_
        refine Ev.if_ (fun h2 => ?_) (fun h2 => ?_)
        · have hb2 := (bb1 (by omega)).mp h2
          rw [if_pos hb2] at kk
          exact Ev.to 20 (L1 := [_, _, _, _, _, _, _]) rfl (Ev.fg kk (le_cc (le_cc (le_cc (le_cc (le_cc (le_cc (le_nc le_nil))))))))
        · rw [if_neg (fun z => h2 ((bb1 (by omega)).mpr z))] at kk
          exact Ev.to 20 (L1 := [_, _, _, _, _, _, _]) rfl (Ev.fg kk (le_cc (le_cc (le_cc (le_cc (le_cc (le_cc (le_nc le_nil))))))))
      · have hb : ¬ bb fs j = true := fun z => h ((bb1 (by omega)).mpr z)
        rw [if_neg hb, if_neg hb, if_neg hb] at kk
        refine Ev.to 999 rfl ?_
        have K : ∀ u a, a2 + (if 0 ≤ v then 0 else v) = a + u → Ev m_X5_mayBe 103 [some (.inr 0), some (.inl (nI i)), some (.inl a1), some (.inl a2), some (.inl a3), some (.inl (nI j)), some (.inl v)] [.inl u, .inl a] (mw n c tb tl se on dd ch fs fo cm ce li ke be) (res, (mw n c tb tl se on dd ch fs fo cm ce li ke be)) := by
          intro u a hu
          rw [hu] at kk
          refine Ev.to 999 (L1 := [_, _, _, _, _, _, _]) rfl ?_
          refine Ev.if_ (fun h3 => ?_) (fun h3 => ?_)
          · rw [if_pos h3] at kk
            exact Ev.to 20 (L1 := [_, _, _, _, _, _, _]) rfl (Ev.fg kk (le_cc (le_cc (le_cc (le_cc (le_cc (le_cc (le_nc le_nil))))))))
          · rw [if_neg h3] at kk
            exact Ev.to 20 (L1 := [_, _, _, _, _, _, _]) rfl (Ev.fg kk (le_cc (le_cc (le_cc (le_cc (le_cc (le_cc (le_nc le_nil))))))))
        refine Ev.if_ (fun h3 => ?_) (fun h3 => ?_)
        · exact Ev.to 103 rfl (K _ _ (by rw [if_pos h3]))
        · exact Ev.to 103 rfl (K _ _ (by rw [if_neg h3]))
    refine Ev.to 999 rfl ?_
    refine Ev.ff (nI_ng hj (by omega)) ?_
    refine Ev.to 999 rfl ?_
    refine Ev.if_ (fun h => ?_) (fun h => ?_)
    · have h := (nI_eq (by omega) (by omega)).mp h
      exact Ev.to 51 rfl (J _ (by rw [h_w, if_pos h]))
    · have h2 : ¬ i = j := fun z => h (by rw [z])
      refine Ev.to 999 rfl ?_
      refine Ev.aldE (8 * i + j) (ni8' i j) rfl rfl (by omega) (by decide) ?_
      exact J _ (by rw [h_w, if_neg h2])
  · generalize fd (h_mo tb i fs fo) (tb (8 * i + i)) n = a1
    generalize fd (h_ml tb i fs) 0 n = a2
    generalize fd (h_mm tb i fs) 0 n = a3
    refine Ev.to 999 rfl ?_
    refine Ev.tt (nI_gg (by omega)) ?_
    refine Ev.to 999 rfl ?_
    refine Ev.if_ (fun h => ?_) (fun h => ?_)
    · refine Ev.to 999 rfl ?_
      refine Ev.if_ (fun h2 => ?_) (fun h2 => ?_)
      · refine Ev.to 999 rfl ?_
        exact Ev.iret rfl rfl (by rw [if_pos h, if_pos h2]) rfl
      · refine Ev.to 999 rfl ?_
        exact Ev.iret rfl rfl (by rw [if_pos h, if_neg h2]) rfl
    · refine Ev.to 999 rfl ?_
      exact Ev.iret rfl rfl (by rw [if_neg h]) rfl
def h_fv (n : Nat) (tb : Nat → Int32) (i : Nat) (s o : Int32) : Int32 := if bb s i = true then -1 else h_mb n tb i s o
def h_fx (n : Nat) (tb : Nat → Int32) (i : Nat) (p : Int32 × Int32 × Int32) : Int32 × Int32 × Int32 := if h_fv n tb i p.1 p.2.1 = -1 then p else (p.1 ||| ((1 : Int32) <<< (nI i &&& 31)), p.2.1 ||| (h_fv n tb i p.1 p.2.1 <<< (nI i &&& 31)), 1)
def h_fo (n : Nat) (tb : Nat → Int32) (_ : Nat) (p : Int32 × Int32 × Int32) : Int32 × Int32 × Int32 := if p.2.2 = 0 then p else fd (h_fx n tb) (p.1, p.2.1, 0) n
theorem m_fixAll {n : Nat} {c : Int32} {tb : Nat → Int32} {tl : Nat} {se on : Nat → Int32} {dd : Int32} {ch : Nat → Int32} {fs fo : Int32} {cm : Nat} {ce li ke be : Nat → Int32} (hn : n ≤ 8) {R : Nat} (hR : (fd (h_fo n tb) (0, 0, 1) R).2.2 = 0) : Cl m_X5_fixAll [.inr 0] (mw n c tb tl se on dd ch fs fo cm ce li ke be) none (mw n c tb tl se on dd ch ((fd (h_fo n tb) (0, 0, 1) R).1) ((fd (h_fo n tb) (0, 0, 1) R).2.1) cm ce li ke be) := by
  refine Ev.to 12 (L1 := [_, _, _, _]) (st1 := []) (w1 := (mw n c tb tl se on dd ch (0) (0) cm ce li ke be)) rfl ?_
  refine Ev.loop (fun r => [some (.inr 0), some (.inl (fd (h_fo n tb) (0, 0, 1) r).2.2), none, none]) (fun r => (mw n c tb tl se on dd ch ((fd (h_fo n tb) (0, 0, 1) r).1) ((fd (h_fo n tb) (0, 0, 1) r).2.1) cm ce li ke be)) (fun _ => True) 0 R (Nat.zero_le R) trivial (fun r _ hr _ kk => ?_) (fun _ => ?_)
  · have kk := kk trivial
    have hstill : (fd (h_fo n tb) (0, 0, 1) r).2.2 = 0 → fd (h_fo n tb) (0, 0, 1) R = fd (h_fo n tb) (0, 0, 1) r := fun hz => fd_still (fun i _ => by rw [h_fo, if_pos hz]) (by omega)
    rw [fd, h_fo] at kk
    generalize fd (h_fo n tb) (0, 0, 1) r = p at kk hstill ⊢
    generalize fd (h_fo n tb) (0, 0, 1) R = pR at kk hstill ⊢
    obtain ⟨s, o, a⟩ := p
    dsimp only at kk hstill ⊢
    refine Ev.to 999 rfl ?_
    refine Ev.if_ (fun h1 => ?_) (fun h1 => ?_)
    · rw [hstill h1]
      exact Ev.vret rfl rfl rfl
    · rw [if_neg h1] at kk
      refine Ev.to 20 (L1 := [_, _, _, _]) (st1 := []) rfl ?_
      refine Ev.loop (fun i => [some (.inr 0), some (.inl (fd (h_fx n tb) (s, o, 0) i).2.2), some (.inl (nI i)), none]) (fun i => (mw n c tb tl se on dd ch ((fd (h_fx n tb) (s, o, 0) i).1) ((fd (h_fx n tb) (s, o, 0) i).2.1) cm ce li ke be)) (fun _ => True) 0 n (Nat.zero_le n) trivial (fun i _ hi _ k2 => ?_) (fun _ => ?_)
      · have k2 := k2 trivial
        rw [nI_succ, fd, h_fx] at k2
        generalize fd (h_fx n tb) (s, o, 0) i = p at k2 ⊢
        obtain ⟨s2, o2, a2⟩ := p
        dsimp only at k2 ⊢
        have J : ∀ v, h_fv n tb i s2 o2 = v → Ev m_X5_fixAll 49 [some (.inr 0), some (.inl a2), some (.inl (nI i)), none] [.inl v] (mw n c tb tl se on dd ch (s2) (o2) cm ce li ke be) (none, (mw n c tb tl se on dd ch (pR.1) (pR.2.1) cm ce li ke be)) := by
          intro v hv
          rw [hv] at k2
          refine Ev.to 999 (L1 := [_, _, _, _]) rfl ?_
          refine Ev.if_ (fun h2 => ?_) (fun h2 => ?_)
          · rw [if_pos h2] at k2
            exact Ev.to 20 (L1 := [_, _, _, _]) rfl (Ev.fg k2 (le_cc (le_cc (le_cc (le_nc le_nil)))))
          · rw [if_neg h2] at k2
            exact Ev.to 20 (L1 := [_, _, _, _]) rfl (Ev.fg k2 (le_cc (le_cc (le_cc (le_nc le_nil)))))
        refine Ev.to 999 rfl ?_
        refine Ev.ff (nI_ng hi (by omega)) ?_
        refine Ev.to 999 rfl ?_
        refine Ev.if_ (fun h => ?_) (fun h => ?_)
        · have hb := (bb1 (by omega)).mp h
          exact Ev.to 49 rfl (J _ (by rw [h_fv, if_pos hb]))
        · refine Ev.to 999 rfl ?_
          refine Ev.callV (rest := []) rfl rfl (m_mayBe hn (by omega)) ?_
          exact J _ (by rw [h_fv, if_neg (fun z => h ((bb1 (by omega)).mpr z))])
      · refine Ev.to 999 rfl ?_
        refine Ev.tt (nI_gg (by omega)) ?_
        exact Ev.to 12 (L1 := [_, _, _, _]) rfl (Ev.fg kk (le_cc (le_cc (le_nc (le_nc le_nil)))))
  · generalize fd (h_fo n tb) (0, 0, 1) R = p at hR ⊢
    obtain ⟨s, o, a⟩ := p
    dsimp only at hR ⊢
    refine Ev.to 999 rfl ?_
    refine Ev.tt hR ?_
    exact Ev.vret rfl rfl rfl
theorem m_fixed_no {n : Nat} {c : Int32} {tb : Nat → Int32} {tl : Nat} {se on : Nat → Int32} {dd : Int32} {ch : Nat → Int32} {fs fo : Int32} {cm : Nat} {ce li ke be : Nat → Int32} {x : Int32} (h : inw x 0 1 = false) : Cl m_X5_fixed [.inr 0, .inl x] (mw n c tb tl se on dd ch fs fo cm ce li ke be) (some (.inl (-2))) (mw n c tb tl se on dd ch fs fo cm ce li ke be) := by
  refine Ev.to 999 rfl ?_
  refine Ev.callS (rest := []) rfl rfl (m_in _ _ _ _) ?_
  refine Ev.to 999 rfl ?_
  refine Ev.tt (bz_f h) ?_
  refine Ev.to 999 rfl ?_
  exact Ev.iret rfl rfl rfl rfl
theorem m_fixed {n : Nat} {c : Int32} {tb : Nat → Int32} {tl : Nat} {se on : Nat → Int32} {dd : Int32} {ch : Nat → Int32} {fs fo : Int32} {cm : Nat} {ce li ke be : Nat → Int32} (hn : n ≤ 8) {x : Int32} (h : inw x 0 1 = true) {R : Nat} (hR : (fd (h_fo n tb) (0, 0, 1) R).2.2 = 0) : Cl m_X5_fixed [.inr 0, .inl x] (mw n c tb tl se on dd ch fs fo cm ce li ke be) (some (.inl (if x = 0 then (fd (h_fo n tb) (0, 0, 1) R).1 else (fd (h_fo n tb) (0, 0, 1) R).2.1))) (mw n c tb tl se on dd ch ((fd (h_fo n tb) (0, 0, 1) R).1) ((fd (h_fo n tb) (0, 0, 1) R).2.1) cm ce li ke be) := by
  refine Ev.to 999 rfl ?_
  refine Ev.callS (rest := []) rfl rfl (m_in _ _ _ _) ?_
  refine Ev.to 999 rfl ?_
  refine Ev.ff (by rw [bz_t h]; decide) ?_
  refine Ev.to 999 rfl ?_
  refine Ev.callV (rest := []) rfl rfl (m_fixAll hn hR) ?_
  refine Ev.to 999 rfl ?_
  refine Ev.if_ (fun h2 => ?_) (fun h2 => ?_)
  · rw [if_pos h2]
    refine Ev.to 999 rfl ?_
    exact Ev.iret rfl rfl rfl rfl
  · rw [if_neg h2]
    refine Ev.to 999 rfl ?_
    exact Ev.iret rfl rfl rfl rfl
def h_lb (tb : Nat → Int32) (i j : Nat) (a : Int32) : Int32 := a + (if 0 ≤ tb (8 * i + j) then 0 else tb (8 * i + j))
def h_lbr (tb : Nat → Int32) (i : Nat) (a : Int32) : Int32 := fd (h_lb tb i) a (i + 1)
theorem m_floor {n : Nat} {c : Int32} {tb : Nat → Int32} {tl : Nat} {se on : Nat → Int32} {dd : Int32} {ch : Nat → Int32} {fs fo : Int32} {cm : Nat} {ce li ke be : Nat → Int32} (hn : n ≤ 8) : Cl m_X5_floor [.inr 0] (mw n c tb tl se on dd ch fs fo cm ce li ke be) (some (.inl (fd (h_lbr tb) c n))) (mw n c tb tl se on dd ch fs fo cm ce li ke be) := by
  refine Ev.to 7 (L1 := [_, _, _, _]) (st1 := []) rfl ?_
  refine Ev.loop (fun i => [some (.inr 0), some (.inl (fd (h_lbr tb) c i)), some (.inl (nI i)), none]) (fun _ => (mw n c tb tl se on dd ch fs fo cm ce li ke be)) (fun _ => True) 0 n (Nat.zero_le n) trivial (fun i _ hi _ kk => ?_) (fun _ => ?_)
  · have kk := kk trivial
    rw [nI_succ, fd, h_lbr] at kk
    refine Ev.to 999 rfl ?_
    refine Ev.ff (nI_ng hi (by omega)) ?_
    generalize fd (h_lbr tb) c i = a0 at kk ⊢
    refine Ev.to 17 (L1 := [_, _, _, _]) (st1 := []) rfl ?_
    refine Ev.loop (fun j => [some (.inr 0), some (.inl (fd (h_lb tb i) a0 j)), some (.inl (nI i)), some (.inl (nI j))]) (fun _ => (mw n c tb tl se on dd ch fs fo cm ce li ke be)) (fun _ => True) 0 (i + 1) (Nat.zero_le _) trivial (fun j _ hj _ k2 => ?_) (fun _ => ?_)
    · have k2 := k2 trivial
      rw [nI_succ, fd, h_lb] at k2
      refine Ev.to 999 rfl ?_
      refine Ev.ff (nI_ngt (by omega) (by omega)) ?_
      refine Ev.to 999 rfl ?_
      refine Ev.aldE (8 * i + j) (ni8' i j) rfl rfl (by omega) (by decide) ?_
      refine Ev.to 999 rfl ?_
      refine Ev.if_ (fun h => ?_) (fun h => ?_)
      · rw [if_pos h] at k2
        exact Ev.to 17 (L1 := [_, _, _, _]) rfl k2
      · rw [if_neg h] at k2
        refine Ev.to 999 rfl ?_
        refine Ev.aldE (8 * i + j) (ni8' i j) rfl rfl (by omega) (by decide) ?_
        exact Ev.to 17 (L1 := [_, _, _, _]) rfl k2
    · refine Ev.to 999 rfl ?_
      refine Ev.tt (nI_gt1 (by omega)) ?_
      exact Ev.to 7 (L1 := [_, _, _, _]) rfl (Ev.fg kk (le_cc (le_cc (le_cc (le_nc le_nil)))))
  · refine Ev.to 999 rfl ?_
    refine Ev.tt (nI_gg (by omega)) ?_
    refine Ev.to 999 rfl ?_
    exact Ev.iret rfl rfl rfl rfl
theorem m_kill_no {n : Nat} {c : Int32} {tb : Nat → Int32} {tl : Nat} {se on : Nat → Int32} {dd : Int32} {ch : Nat → Int32} {fs fo : Int32} {cm : Nat} {ce li ke be : Nat → Int32} {x : Int32} (b : Int32) (h : inw x 0 19 = false) : Cl m_X5_kill [.inr 0, .inl x, .inl b] (mw n c tb tl se on dd ch fs fo cm ce li ke be) (some (.inl (-2))) (mw n c tb tl se on dd ch fs fo cm ce li ke be) := by
  refine Ev.to 999 rfl ?_
  refine Ev.callS (rest := []) rfl rfl (m_in _ _ _ _) ?_
  refine Ev.to 999 rfl ?_
  refine Ev.tt (bz_f h) ?_
  refine Ev.to 999 rfl ?_
  exact Ev.iret rfl rfl rfl rfl
theorem m_kill {n : Nat} {c : Int32} {tb : Nat → Int32} {tl : Nat} {se on : Nat → Int32} {dd : Int32} {ch : Nat → Int32} {fs fo : Int32} {cm : Nat} {ce li ke be : Nat → Int32} {q : Nat} (hq : q < 32) (b : Int32) (h : inw (nI q) 0 19 = true) : Cl m_X5_kill [.inr 0, .inl (nI q), .inl b] (mw n c tb tl se on dd ch fs fo cm ce li ke be) (some (.inl (bz (bb dd q)))) (mw n c tb tl se on (g_sd dd (nI q) b) ch fs fo cm ce li ke be) := by
  rw [← bbv hq]
  refine Ev.to 999 rfl ?_
  refine Ev.callS (rest := []) rfl rfl (m_in _ _ _ _) ?_
  refine Ev.to 999 rfl ?_
  refine Ev.ff (by rw [bz_t h]; decide) ?_
  refine Ev.to 999 (L1 := [_, _, _, _]) rfl ?_
  refine Ev.if_ (fun hb => ?_) (fun hb => ?_)
  · rw [g_sd, if_pos hb]
    refine Ev.to 999 (w1 := (mw n c tb tl se on (dd &&& (((1 : Int32) <<< (nI q &&& 31)) ^^^ (-1))) ch fs fo cm ce li ke be)) rfl ?_
    exact Ev.iret rfl rfl rfl rfl
  · rw [g_sd, if_neg hb]
    refine Ev.to 999 (w1 := (mw n c tb tl se on (dd ||| ((1 : Int32) <<< (nI q &&& 31))) ch fs fo cm ce li ke be)) rfl ?_
    exact Ev.iret rfl rfl rfl rfl
theorem m_chain_no {n : Nat} {c : Int32} {tb : Nat → Int32} {tl : Nat} {se on : Nat → Int32} {dd : Int32} {ch : Nat → Int32} {fs fo : Int32} {cm : Nat} {ce li ke be : Nat → Int32} {i x : Int32} (h : inw i 0 (nI n - 1) = false ∨ inw x 0 1048575 = false) : Cl m_X5_chain [.inr 0, .inl i, .inl x] (mw n c tb tl se on dd ch fs fo cm ce li ke be) (some (.inl (-2))) (mw n c tb tl se on dd ch fs fo cm ce li ke be) := by
  have no : Ev m_X5_chain 18 [some (.inr 0), some (.inl i), some (.inl x)] [] (mw n c tb tl se on dd ch fs fo cm ce li ke be) (some (.inl (-2)), (mw n c tb tl se on dd ch fs fo cm ce li ke be)) := by
    refine Ev.to 999 rfl ?_
    exact Ev.iret rfl rfl rfl rfl
  refine Ev.to 999 rfl ?_
  refine Ev.callV (rest := []) rfl rfl (m_isLetter _) ?_
  refine Ev.to 999 rfl ?_
  refine Ev.on (fun _ => no) (fun h1 => ?_)
  refine Ev.to 999 rfl ?_
  refine Ev.callS (rest := []) rfl rfl (m_in _ _ _ _) ?_
  refine Ev.to 999 rfl ?_
  refine Ev.on (fun _ => no) (fun h2 => ?_)
  rw [h1, h2] at h
  exact absurd h (by decide)
theorem m_chain {n : Nat} {c : Int32} {tb : Nat → Int32} {tl : Nat} {se on : Nat → Int32} {dd : Int32} {ch : Nat → Int32} {fs fo : Int32} {cm : Nat} {ce li ke be : Nat → Int32} {a : Nat} {x : Int32} (ha : a < 8) (h1 : inw (nI a) 0 (nI n - 1) = true) (h2 : inw x 0 1048575 = true) : Cl m_X5_chain [.inr 0, .inl (nI a), .inl x] (mw n c tb tl se on dd ch fs fo cm ce li ke be) (some (.inl (io x))) (mw n c tb tl se on dd (upd ch a x) fs fo cm ce li ke be) := by
  refine Ev.to 999 rfl ?_
  refine Ev.callV (rest := []) rfl rfl (m_isLetter _) ?_
  refine Ev.to 999 rfl ?_
  refine Ev.ff (by rw [bz_t h1]; decide) ?_
  refine Ev.to 999 rfl ?_
  refine Ev.callS (rest := []) rfl rfl (m_in _ _ _ _) ?_
  refine Ev.to 999 rfl ?_
  refine Ev.ff (by rw [bz_t h2]; decide) ?_
  refine Ev.to 999 rfl ?_
  refine Ev.ast rfl rfl ha (by decide) ?_
  refine Ev.to 999 rfl ?_
  refine Ev.callS rfl rfl (m_ones _ _) ?_
  exact Ev.iret rfl rfl rfl rfl
