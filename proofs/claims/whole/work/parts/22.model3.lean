/-! the reference: the grid -/
def h_u1 (c : Nat) : Int32 := if nI c < 5 then 0 else (1 : Int32) <<< ((nI c - 5) &&& 31)
def h_u2 (c : Nat) : Int32 := if 15 ≤ nI c then 0 else (1 : Int32) <<< ((nI c + 5) &&& 31)
def h_u3 (c : Nat) : Int32 := if nI c - nI c / 5 * 5 ≤ 0 then 0 else (1 : Int32) <<< ((nI c - 1) &&& 31)
def h_u4 (c : Nat) : Int32 := if 4 ≤ nI c - nI c / 5 * 5 then 0 else (1 : Int32) <<< ((nI c + 1) &&& 31)
def h_bs (x : Int32) (c : Nat) (a : Int32) : Int32 := if bb x c = true then (((a ||| h_u1 c) ||| h_u2 c) ||| h_u3 c) ||| h_u4 c else a
def h_be (x : Int32) : Int32 := fd (h_bs x) 0 20
theorem m_beside (x : Int32) (w : ix_W) : Cl m_X5_beside [.inl x] w (some (.inl (h_be x))) w := by
  rw [h_be]
  refine Ev.to 4 (L1 := [_, _, _]) (st1 := []) rfl ?_
  refine Ev.loop (fun c => [some (.inl x), some (.inl (fd (h_bs x) 0 c)), some (.inl (nI c))]) (fun _ => w) (fun _ => True) 0 20 (by omega) trivial (fun c _ hc _ kk => ?_) (fun _ => ?_)
  · have kk := kk trivial
    rw [nI_succ, fd, h_bs] at kk
    generalize fd (h_bs x) 0 c = a at kk ⊢
    generalize (some (Sum.inl (fd (h_bs x) 0 20)) : Option ix_V) = res at kk ⊢
    refine Ev.to 999 rfl ?_
    refine Ev.ff (nI_ng (n := 20) hc (by omega)) ?_
    refine Ev.to 999 rfl ?_
    refine Ev.if_ (fun h => ?_) (fun h => ?_)
    · rw [if_pos ((bb1 (by omega)).mp h)] at kk
      have s4 : ∀ a, Ev m_X5_beside 4 [some (.inl x), some (.inl (a ||| h_u4 c)), some (.inl (nI c + 1))] [] w (res, w) → Ev m_X5_beside 72 [some (.inl x), some (.inl a), some (.inl (nI c))] [] w (res, w) := by
        intro a kk
        refine Ev.to 999 rfl ?_
        refine Ev.rm rfl (by decide) ?_
        refine Ev.to 999 rfl ?_
        refine Ev.if_ (fun h => ?_) (fun h => ?_)
        · rw [h_u4, if_pos h] at kk
          exact Ev.to 4 (L1 := [_, _, _]) rfl kk
        · rw [h_u4, if_neg h] at kk
          exact Ev.to 4 (L1 := [_, _, _]) rfl kk
      have s3 : ∀ a, Ev m_X5_beside 72 [some (.inl x), some (.inl (a ||| h_u3 c)), some (.inl (nI c))] [] w (res, w) → Ev m_X5_beside 54 [some (.inl x), some (.inl a), some (.inl (nI c))] [] w (res, w) := by
        intro a kk
        refine Ev.to 999 rfl ?_
        refine Ev.rm rfl (by decide) ?_
        refine Ev.to 999 rfl ?_
        refine Ev.if_ (fun h => ?_) (fun h => ?_)
        · rw [h_u3, if_pos h] at kk
          exact Ev.to 72 (L1 := [_, _, _]) rfl kk
        · rw [h_u3, if_neg h] at kk
          exact Ev.to 72 (L1 := [_, _, _]) rfl kk
      have s2 : ∀ a, Ev m_X5_beside 54 [some (.inl x), some (.inl (a ||| h_u2 c)), some (.inl (nI c))] [] w (res, w) → Ev m_X5_beside 36 [some (.inl x), some (.inl a), some (.inl (nI c))] [] w (res, w) := by
        intro a kk
        refine Ev.to 999 rfl ?_
        refine Ev.if_ (fun h => ?_) (fun h => ?_)
        · rw [h_u2, if_pos h] at kk
          exact Ev.to 54 (L1 := [_, _, _]) rfl kk
        · rw [h_u2, if_neg h] at kk
          exact Ev.to 54 (L1 := [_, _, _]) rfl kk
      refine Ev.to 999 rfl ?_
      refine Ev.if_ (fun h => ?_) (fun h => ?_)
      · refine Ev.to 36 (L1 := [_, _, _]) (st1 := []) rfl (s2 _ (s3 _ (s4 _ ?_)))
        rw [h_u1, if_pos h] at kk
        exact kk
      · refine Ev.to 36 (L1 := [_, _, _]) (st1 := []) rfl (s2 _ (s3 _ (s4 _ ?_)))
        rw [h_u1, if_neg h] at kk
        exact kk
    · rw [if_neg (fun z => h ((bb1 (by omega)).mpr z))] at kk
      exact Ev.to 4 (L1 := [_, _, _]) rfl kk
  · generalize fd (h_bs x) 0 20 = r
    refine Ev.to 999 (pc1 := 97) rfl ?_
    refine Ev.to 999 rfl ?_
    exact Ev.iret rfl rfl rfl rfl
theorem m_firstOf {m : Nat} (h : 0 < m) (hm : m < 2 ^ 31) (w : ix_W) : Cl m_X5_firstOf [.inl (nI m)] w (some (.inl (nI (lowb m)))) w := by
  have hlt := (low_dec h hm).1
  refine Ev.to 2 (L1 := [_, _]) (st1 := []) rfl ?_
  refine Ev.loop (fun c => [some (.inl (nI m)), some (.inl (nI c))]) (fun _ => w) (fun _ => True) 0 (lowb m) (Nat.zero_le _) trivial (fun c _ hc _ kk => ?_) (fun _ => ?_)
  · have kk := kk trivial
    rw [nI_succ] at kk
    refine Ev.to 999 rfl ?_
    refine Ev.tt ((bb0 (by omega)).mpr (by rw [bb_nI (by omega)]; exact lowb_no hc)) ?_
    exact Ev.to 2 (L1 := [_, _]) rfl kk
  · refine Ev.to 999 rfl ?_
    refine Ev.ff (fun z => by
      have := (bb0 (by omega)).mp z
      rw [bb_nI (by omega), lowb_bit h hm] at this
      cases this) ?_
    refine Ev.to 999 rfl ?_
    exact Ev.iret rfl rfl rfl rfl
def h_hs (x : Int32) (_ : Nat) (r : Int32) : Int32 := r ||| (h_be r &&& x)
def h_ht (m : Nat) : Bool := decide (fd (h_hs (nI m)) ((1 : Int32) <<< (nI (lowb m) &&& 31)) 20 = nI m)
theorem m_hangs {m : Nat} (h : 0 < m) (hm : m < 2 ^ 31) (w : ix_W) : Cl m_X5_hangs [.inl (nI m)] w (some (.inl (bz (h_ht m)))) w := by
  refine Ev.to 999 rfl ?_
  refine Ev.callS rfl rfl (m_firstOf h hm _) ?_
  rw [h_ht]
  refine Ev.to 9 (L1 := [_, some (.inl ((1 : Int32) <<< (nI (lowb m) &&& 31))), _]) (st1 := []) rfl ?_
  generalize (1 : Int32) <<< (nI (lowb m) &&& 31) = r0
  generalize nI m = x
  refine Ev.loop (fun i => [some (.inl x), some (.inl (fd (h_hs x) r0 i)), some (.inl (nI i))]) (fun _ => w) (fun _ => True) 0 20 (by omega) trivial (fun i _ hi _ kk => ?_) (fun _ => ?_)
  · have kk := kk trivial
    rw [nI_succ, fd, h_hs] at kk
    generalize fd (h_hs x) r0 i = r at kk ⊢
    refine Ev.to 999 rfl ?_
    refine Ev.ff (nI_ng (n := 20) hi (by omega)) ?_
    refine Ev.to 999 rfl ?_
    refine Ev.callS rfl rfl (m_beside _ _) ?_
    exact Ev.to 9 (L1 := [_, _, _]) rfl kk
  · generalize fd (h_hs x) r0 20 = r
    refine Ev.to 999 (pc1 := 30) rfl ?_
    refine Ev.to 999 rfl ?_
    refine Ev.if_ (fun h => ?_) (fun h => ?_)
    · refine Ev.to 999 rfl ?_
      exact Ev.zret rfl rfl (by rw [bz_t (decide_eq_true h)]) rfl (Or.inr rfl)
    · refine Ev.to 999 rfl ?_
      exact Ev.zret rfl rfl (by rw [bz_f (decide_eq_false h)]) rfl (Or.inl rfl)
theorem m_all {n : Nat} {c : Int32} {tb : Nat → Int32} {tl : Nat} {se on : Nat → Int32} {dd : Int32} {ch : Nat → Int32} {fs fo : Int32} {cm : Nat} {ce li ke be : Nat → Int32} (hn : n ≤ 8) : Cl m_X5_all [.inr 0] (mw n c tb tl se on dd ch fs fo cm ce li ke be) (some (.inl (fd (g_all ch) 0 n))) (mw n c tb tl se on dd ch fs fo cm ce li ke be) := by
  refine Ev.to 4 (L1 := [_, _, _]) (st1 := []) rfl ?_
  refine Ev.loop (fun j => [some (.inr 0), some (.inl (fd (g_all ch) 0 j)), some (.inl (nI j))]) (fun _ => (mw n c tb tl se on dd ch fs fo cm ce li ke be)) (fun _ => True) 0 n (Nat.zero_le n) trivial (fun j _ hj _ kk => ?_) (fun _ => ?_)
  · have kk := kk trivial
    rw [nI_succ, fd, g_all] at kk
    refine Ev.to 999 rfl ?_
    refine Ev.ff (nI_ng hj (by omega)) ?_
    refine Ev.to 999 rfl ?_
    refine Ev.ald rfl rfl (by omega) (by decide) ?_
    exact Ev.to 4 (L1 := [_, _, _]) rfl kk
  · refine Ev.to 999 rfl ?_
    refine Ev.tt (nI_gg (by omega)) ?_
    refine Ev.to 999 rfl ?_
    exact Ev.iret rfl rfl rfl rfl
def h_tog (ch : Nat → Int32) (i : Nat) (a : Int32) : Int32 := a + io (ch i)
theorem m_together {n : Nat} {c : Int32} {tb : Nat → Int32} {tl : Nat} {se on : Nat → Int32} {dd : Int32} {ch : Nat → Int32} {fs fo : Int32} {cm : Nat} {ce li ke be : Nat → Int32} (hn : n ≤ 8) : Cl m_X5_together [.inr 0] (mw n c tb tl se on dd ch fs fo cm ce li ke be) (some (.inl (fd (h_tog ch) 0 n))) (mw n c tb tl se on dd ch fs fo cm ce li ke be) := by
  refine Ev.to 4 (L1 := [_, _, _]) (st1 := []) rfl ?_
  refine Ev.loop (fun j => [some (.inr 0), some (.inl (fd (h_tog ch) 0 j)), some (.inl (nI j))]) (fun _ => (mw n c tb tl se on dd ch fs fo cm ce li ke be)) (fun _ => True) 0 n (Nat.zero_le n) trivial (fun j _ hj _ kk => ?_) (fun _ => ?_)
  · have kk := kk trivial
    rw [nI_succ, fd, h_tog] at kk
    refine Ev.to 999 rfl ?_
    refine Ev.ff (nI_ng hj (by omega)) ?_
    refine Ev.to 999 rfl ?_
    refine Ev.ald rfl rfl (by omega) (by decide) ?_
    refine Ev.callS rfl rfl (m_ones _ _) ?_
    exact Ev.to 4 (L1 := [_, _, _]) rfl kk
  · refine Ev.to 999 rfl ?_
    refine Ev.tt (nI_gg (by omega)) ?_
    refine Ev.to 999 rfl ?_
    exact Ev.iret rfl rfl rfl rfl
theorem anyB_s (p : Nat → Bool) (n : Nat) : anyB p (n + 1) = (anyB p n || p n) := by
  unfold anyB
  rw [List.range_succ, List.any_append]
  simp
theorem m_fails1 {n : Nat} {c : Int32} {tb : Nat → Int32} {tl : Nat} {se on : Nat → Int32} {dd : Int32} {ch : Nat → Int32} {fs fo : Int32} {cm : Nat} {ce li ke be : Nat → Int32} (hn : n ≤ 8) : Cl m_X5_fails [.inr 0, .inl 1] (mw n c tb tl se on dd ch fs fo cm ce li ke be) (some (.inl (bz (anyB (g_p1 ch) n)))) (mw n c tb tl se on dd ch fs fo cm ce li ke be) := by
  refine Ev.to 4 (L1 := [_, _, _, _, _]) (st1 := []) rfl ?_
  refine Ev.loop (fun i => [some (.inr 0), some (.inl 1), some (.inl (bz (anyB (g_p1 ch) i))), some (.inl (nI i)), none]) (fun _ => (mw n c tb tl se on dd ch fs fo cm ce li ke be)) (fun _ => True) 0 n (Nat.zero_le n) trivial (fun i _ hi _ kk => ?_) (fun _ => ?_)
  · have kk := kk trivial
    rw [nI_succ, anyB_s] at kk
    generalize anyB (g_p1 ch) i = b at kk ⊢
    have J : ∀ v, (b || g_p1 ch i) = v → Ev m_X5_fails 52 [some (.inr 0), some (.inl 1), some (.inl (bz b)), some (.inl (nI i)), none] [.inl (bz v)] (mw n c tb tl se on dd ch fs fo cm ce li ke be) (some (.inl (bz (anyB (g_p1 ch) n))), (mw n c tb tl se on dd ch fs fo cm ce li ke be)) := by
      intro v hv
      rw [hv] at kk
      refine Ev.to 999 (L1 := [_, _, _, _, _]) rfl ?_
      refine Ev.if_ (fun h => ?_) (fun h => ?_)
      · exact Ev.to 4 (L1 := [_, _, _, _, _]) rfl (Ev.fg kk (le_cc (le_cc (le_cc (le_cc (le_nc le_nil))))))
      · refine Ev.to 999 (pc1 := 118) rfl ?_
        exact Ev.to 4 (L1 := [_, _, _, _, _]) rfl (Ev.fg kk (le_cc (le_cc (le_cc (le_cc (le_nc le_nil))))))
    refine Ev.to 999 rfl ?_
    refine Ev.ff (nI_ng hi (by omega)) ?_
    refine Ev.to 999 rfl ?_
    refine Ev.on (fun hb => ?_) (fun hb => ?_)
    · subst hb
      refine Ev.to 999 (pc1 := 21) rfl ?_
      refine Ev.to 999 rfl ?_
      refine Ev.ald rfl rfl (by omega) (by decide) ?_
      refine Ev.to 999 rfl ?_
      refine Ev.if_ (fun h => ?_) (fun h => ?_)
      · exact Ev.to 52 rfl (J true (by rw [g_p1, decide_eq_true h]; rfl))
      · refine Ev.to 999 (pc1 := 51) rfl ?_
        exact Ev.to 52 rfl (J false (by rw [g_p1, decide_eq_false h]; rfl))
    · subst hb
      exact Ev.to 52 rfl (J true rfl)
  · refine Ev.to 999 rfl ?_
    refine Ev.tt (nI_gg (by omega)) ?_
    refine Ev.to 999 rfl ?_
    exact Ev.zret rfl rfl rfl rfl (bz_01 _)
def h_p4 (mm : Nat → Nat) (i : Nat) : Bool := !h_ht (mm i)
theorem m_fails4 {n : Nat} {c : Int32} {tb : Nat → Int32} {tl : Nat} {se on : Nat → Int32} {dd : Int32} {ch : Nat → Int32} {fs fo : Int32} {cm : Nat} {ce li ke be : Nat → Int32} (hn : n ≤ 8) {mm : Nat → Nat} (hm : ∀ i, i < n → ch i = nI (mm i) ∧ 0 < mm i ∧ mm i < 2 ^ 31) : Cl m_X5_fails [.inr 0, .inl 4] (mw n c tb tl se on dd ch fs fo cm ce li ke be) (some (.inl (bz (anyB (h_p4 mm) n)))) (mw n c tb tl se on dd ch fs fo cm ce li ke be) := by
  refine Ev.to 4 (L1 := [_, _, _, _, _]) (st1 := []) rfl ?_
  refine Ev.loop (fun i => [some (.inr 0), some (.inl 4), some (.inl (bz (anyB (h_p4 mm) i))), some (.inl (nI i)), none]) (fun _ => (mw n c tb tl se on dd ch fs fo cm ce li ke be)) (fun _ => True) 0 n (Nat.zero_le n) trivial (fun i _ hi _ kk => ?_) (fun _ => ?_)
  · have kk := kk trivial
    obtain ⟨q1, q2, q3⟩ := hm i hi
    rw [nI_succ, anyB_s] at kk
    generalize anyB (h_p4 mm) i = b at kk ⊢
    have J : ∀ v, (b || h_p4 mm i) = v → Ev m_X5_fails 52 [some (.inr 0), some (.inl 4), some (.inl (bz b)), some (.inl (nI i)), none] [.inl (bz v)] (mw n c tb tl se on dd ch fs fo cm ce li ke be) (some (.inl (bz (anyB (h_p4 mm) n))), (mw n c tb tl se on dd ch fs fo cm ce li ke be)) := by
      intro v hv
      rw [hv] at kk
      refine Ev.to 999 (L1 := [_, _, _, _, _]) rfl ?_
      refine Ev.if_ (fun h => ?_) (fun h => ?_)
      · exact Ev.to 4 (L1 := [_, _, _, _, _]) rfl (Ev.fg kk (le_cc (le_cc (le_cc (le_cc (le_nc le_nil))))))
      · refine Ev.to 999 (pc1 := 118) rfl ?_
        exact Ev.to 4 (L1 := [_, _, _, _, _]) rfl (Ev.fg kk (le_cc (le_cc (le_cc (le_cc (le_nc le_nil))))))
    refine Ev.to 999 rfl ?_
    refine Ev.ff (nI_ng hi (by omega)) ?_
    refine Ev.to 999 rfl ?_
    refine Ev.on (fun hb => ?_) (fun hb => ?_)
    · subst hb
      refine Ev.to 999 (pc1 := 30) rfl ?_
      refine Ev.to 999 (pc1 := 35) rfl ?_
      refine Ev.to 999 rfl ?_
      refine Ev.ald rfl rfl (by omega) (by decide) ?_
      rw [q1]
      refine Ev.callS (rest := []) rfl rfl (m_hangs q2 q3 _) ?_
      refine Ev.to 999 rfl ?_
      refine Ev.on (fun h => ?_) (fun h => ?_)
      · exact Ev.to 52 rfl (J true (by rw [h_p4, h]; rfl))
      · exact Ev.to 52 rfl (J false (by rw [h_p4, h]; rfl))
    · subst hb
      exact Ev.to 52 rfl (J true rfl)
  · refine Ev.to 999 rfl ?_
    refine Ev.tt (nI_gg (by omega)) ?_
    refine Ev.to 999 rfl ?_
    exact Ev.zret rfl rfl rfl rfl (bz_01 _)
def h_p5i (tb ch : Nat → Int32) (i j : Nat) : Bool := decide (¬ tb (8 * i + j) = 0 ∧ h_be (ch i) &&& ch j = 0)
def h_p5 (tb ch : Nat → Int32) (i : Nat) : Bool := anyB (h_p5i tb ch i) i
theorem m_fails5 {n : Nat} {c : Int32} {tb : Nat → Int32} {tl : Nat} {se on : Nat → Int32} {dd : Int32} {ch : Nat → Int32} {fs fo : Int32} {cm : Nat} {ce li ke be : Nat → Int32} (hn : n ≤ 8) : Cl m_X5_fails [.inr 0, .inl 5] (mw n c tb tl se on dd ch fs fo cm ce li ke be) (some (.inl (bz (anyB (h_p5 tb ch) n)))) (mw n c tb tl se on dd ch fs fo cm ce li ke be) := by
  refine Ev.to 4 (L1 := [_, _, _, _, _]) (st1 := []) rfl ?_
  refine Ev.loop (fun i => [some (.inr 0), some (.inl 5), some (.inl (bz (anyB (h_p5 tb ch) i))), some (.inl (nI i)), none]) (fun _ => (mw n c tb tl se on dd ch fs fo cm ce li ke be)) (fun _ => True) 0 n (Nat.zero_le n) trivial (fun i _ hi _ kk => ?_) (fun _ => ?_)
  · have kk := kk trivial
    rw [nI_succ, anyB_s, h_p5] at kk
    generalize anyB (h_p5 tb ch) i = b at kk ⊢
    generalize (some (Sum.inl (bz (anyB (h_p5 tb ch) n))) : Option ix_V) = res at kk ⊢
    have J : Ev m_X5_fails 52 [some (.inr 0), some (.inl 5), some (.inl (bz b)), some (.inl (nI i)), none] [.inl (bz b)] (mw n c tb tl se on dd ch fs fo cm ce li ke be) (res, (mw n c tb tl se on dd ch fs fo cm ce li ke be)) := by
      refine Ev.to 56 (L1 := [_, _, _, _, _]) (st1 := []) rfl ?_
      show Ev _ _ [_, _, some (.inl (bz b)), _, some (.inl 0)] _ _ _
      rw [show bz b = bz (b || anyB (h_p5i tb ch i) 0) by cases b <;> rfl]
      refine Ev.loop (fun j => [some (.inr 0), some (.inl 5), some (.inl (bz (b || anyB (h_p5i tb ch i) j))), some (.inl (nI i)), some (.inl (nI j))]) (fun _ => (mw n c tb tl se on dd ch fs fo cm ce li ke be)) (fun _ => True) 0 i (Nat.zero_le i) trivial (fun j _ hj _ k2 => ?_) (fun _ => ?_)
      · have k2 := k2 trivial
        rw [nI_succ, anyB_s, ← Bool.or_assoc] at k2
        generalize (b || anyB (h_p5i tb ch i) j) = b2 at k2 ⊢
        have K : ∀ v, (b2 || h_p5i tb ch i j) = v → Ev m_X5_fails 111 [some (.inr 0), some (.inl 5), some (.inl (bz b2)), some (.inl (nI i)), some (.inl (nI j))] [.inl (bz v)] (mw n c tb tl se on dd ch fs fo cm ce li ke be) (res, (mw n c tb tl se on dd ch fs fo cm ce li ke be)) := by
          intro v hv
          rw [hv] at k2
          exact Ev.to 56 (L1 := [_, _, _, _, _]) rfl k2
        refine Ev.to 999 rfl ?_
        refine Ev.ff (nI_ng hj (by omega)) ?_
        refine Ev.to 999 (pc1 := 67) rfl ?_
        refine Ev.to 999 rfl ?_
        refine Ev.on (fun hb => ?_) (fun hb => ?_)
        · subst hb
          refine Ev.to 999 rfl ?_
          refine Ev.aldE (8 * i + j) (ni8' i j) rfl rfl (by omega) (by decide) ?_
          refine Ev.to 999 rfl ?_
          refine Ev.if_ (fun h => ?_) (fun h => ?_)
          · exact Ev.to 111 rfl (K false (by rw [h_p5i, decide_eq_false (fun q => q.1 h)]; rfl))
          · refine Ev.to 999 rfl ?_
            refine Ev.ald rfl rfl (by omega) (by decide) ?_
            refine Ev.callS rfl rfl (m_beside _ _) ?_
            refine Ev.to 999 rfl ?_
            refine Ev.ald rfl rfl (by omega) (by decide) ?_
            refine Ev.to 999 rfl ?_
            refine Ev.if_ (fun h2 => ?_) (fun h2 => ?_)
            · exact Ev.to 111 rfl (K true (by rw [h_p5i, decide_eq_true ⟨h, h2⟩]; rfl))
            · exact Ev.to 111 rfl (K false (by rw [h_p5i, decide_eq_false (fun q => h2 q.2)]; rfl))
        · subst hb
          exact Ev.to 111 rfl (K true rfl)
      · refine Ev.to 999 rfl ?_
        refine Ev.tt (nI_gg (by omega)) ?_
        exact Ev.to 4 (L1 := [_, _, _, _, _]) rfl (Ev.fg kk (le_cc (le_cc (le_cc (le_cc (le_nc le_nil))))))
    refine Ev.to 999 rfl ?_
    refine Ev.ff (nI_ng hi (by omega)) ?_
    refine Ev.to 999 rfl ?_
    refine Ev.on (fun hb => ?_) (fun hb => ?_)
    · subst hb
      refine Ev.to 999 (pc1 := 30) rfl ?_
      refine Ev.to 999 (pc1 := 51) rfl ?_
      exact Ev.to 52 rfl J
    · subst hb
      exact Ev.to 52 rfl J
  · refine Ev.to 999 rfl ?_
    refine Ev.tt (nI_gg (by omega)) ?_
    refine Ev.to 999 rfl ?_
    exact Ev.zret rfl rfl rfl rfl (bz_01 _)
def h_ff (n : Nat) (tb ch : Nat → Int32) (dd : Int32) (mm : Nat → Nat) : Int32 := if anyB (g_p1 ch) n = true then 1 else if ¬ fd (g_all ch) 0 n &&& dd = 0 then 2 else if ¬ fd (h_tog ch) 0 n = io (fd (g_all ch) 0 n) then 3 else if anyB (h_p4 mm) n = true then 4 else if anyB (h_p5 tb ch) n = true then 5 else if fd (h_tog ch) 0 n ≤ 14 then 0 else 6
theorem m_stands {n : Nat} {c : Int32} {tb : Nat → Int32} {tl : Nat} {se on : Nat → Int32} {dd : Int32} {ch : Nat → Int32} {fs fo : Int32} {cm : Nat} {ce li ke be : Nat → Int32} (hn : n ≤ 8) {mm : Nat → Nat} (hm : ∀ i, i < n → ch i = nI (mm i) ∧ mm i < 2 ^ 31) : Cl m_X5_stands [.inr 0] (mw n c tb tl se on dd ch fs fo cm ce li ke be) (some (.inl (h_ff n tb ch dd mm))) (mw n c tb tl se on dd ch fs fo cm ce li ke be) := by
  rw [h_ff]
  refine Ev.to 999 rfl ?_
  refine Ev.callV (rest := []) rfl rfl (m_fails1 hn) ?_
  refine Ev.to 999 rfl ?_
  refine Ev.on (fun h1 => ?_) (fun h1 => ?_)
  · rw [if_neg (by rw [h1]; decide)]
    have hm2 : ∀ i, i < n → ch i = nI (mm i) ∧ 0 < mm i ∧ mm i < 2 ^ 31 := by
      intro i hi
      obtain ⟨a1, a2⟩ := hm i hi
      refine ⟨a1, ?_, a2⟩
      rcases Nat.eq_zero_or_pos (mm i) with z | z
      · have : anyB (g_p1 ch) n = true := anyB_t hi (decide_eq_true (by rw [a1, z]; rfl))
        rw [h1] at this; cases this
      · exact z
    refine Ev.to 999 rfl ?_
    refine Ev.callV rfl rfl (m_all hn) ?_
    refine Ev.to 999 rfl ?_
    refine Ev.if_ (fun h2 => ?_) (fun h2 => ?_)
    · rw [if_neg (fun q => q h2)]
      refine Ev.to 999 rfl ?_
      refine Ev.callV rfl rfl (m_together hn) ?_
      refine Ev.to 999 rfl ?_
      refine Ev.callV rfl rfl (m_all hn) ?_
      refine Ev.callS rfl rfl (m_ones _ _) ?_
      refine Ev.to 999 rfl ?_
      refine Ev.if_ (fun h3 => ?_) (fun h3 => ?_)
      · rw [if_neg (fun q => q h3)]
        refine Ev.to 999 rfl ?_
        refine Ev.callV (rest := []) rfl rfl (m_fails4 hn hm2) ?_
        refine Ev.to 999 rfl ?_
        refine Ev.on (fun h4 => ?_) (fun h4 => ?_)
        · rw [if_neg (by rw [h4]; decide)]
          refine Ev.to 999 rfl ?_
          refine Ev.callV (rest := []) rfl rfl (m_fails5 hn) ?_
          refine Ev.to 999 rfl ?_
          refine Ev.on (fun h5 => ?_) (fun h5 => ?_)
          · rw [if_neg (by rw [h5]; decide)]
            refine Ev.to 999 rfl ?_
            refine Ev.callV rfl rfl (m_together hn) ?_
            refine Ev.to 999 rfl ?_
            refine Ev.if_ (fun h6 => ?_) (fun h6 => ?_)
            · refine Ev.to 999 rfl ?_
              exact Ev.iret rfl rfl (by rw [if_pos h6]) rfl
            · refine Ev.to 999 rfl ?_
              exact Ev.iret rfl rfl (by rw [if_neg h6]) rfl
          · rw [if_pos h5]
            refine Ev.to 999 rfl ?_
            exact Ev.iret rfl rfl rfl rfl
        · rw [if_pos h4]
          refine Ev.to 999 rfl ?_
          exact Ev.iret rfl rfl rfl rfl
      · rw [if_pos h3]
        refine Ev.to 999 rfl ?_
        exact Ev.iret rfl rfl rfl rfl
    · rw [if_pos h2]
      refine Ev.to 999 rfl ?_
      exact Ev.iret rfl rfl rfl rfl
  · rw [if_pos h1]
    refine Ev.to 999 rfl ?_
    exact Ev.iret rfl rfl rfl rfl
