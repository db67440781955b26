/-! runs of the small machine, without their fuel -/
def Ev (k pc : Nat) (L : ix_L) (st : List ix_V) (w : ix_W) (x : Option ix_V × ix_W) : Prop := ∃ n, ix_run n k pc L st w = some x
/-- a call of method k -/
def Cl (k : Nat) (as : List ix_V) (w : ix_W) (r : Option ix_V) (w1 : ix_W) : Prop := Ev k 0 (ix_en k as) [] w (r, w1)
def ix_sn : Nat → Nat → ix_S → Option ix_S
  | 0, _, z => some z
  | n + 1, k, z => match ix_lk k z.1 with
    | some e => match ix_kd e with
      | 0 => (ix_st z.1 e z.2.1 z.2.2.1 z.2.2.2).bind (ix_sn n k)
      | _ => none
    | none => none
theorem Ev.go {k pc pc1 : Nat} {L L1 : ix_L} {st st1 : List ix_V} {w w1 : ix_W} {x : Option ix_V × ix_W} (n : Nat) (h : ix_sn n k (pc, L, st, w) = some (pc1, L1, st1, w1)) (kk : Ev k pc1 L1 st1 w1 x) : Ev k pc L st w x := by
  induction n generalizing pc L st w with
  | zero =>
    rw [ix_sn] at h
    cases h
    exact kk
  | succ n ih =>
    rw [ix_sn] at h
    dsimp only at h
    split at h
    · rename_i e he
      split at h
      · rename_i hk
        obtain ⟨z, h1, h2⟩ := Option.bind_eq_some_iff.mp h
        obtain ⟨f, hf⟩ := ih (pc := z.1) (L := z.2.1) (st := z.2.2.1) (w := z.2.2.2) h2
        refine ⟨f + 1, ?_⟩
        rw [ix_run, he]
        dsimp only
        rw [hk]
        show Option.bind _ _ = _
        rw [h1]
        exact hf
      · cases h
    · cases h
theorem Ev.if_ {k pc1 pc2 : Nat} {c : Prop} {L : ix_L} {st : List ix_V} {w : ix_W} {x : Option ix_V × ix_W} {d : Decidable c} (h1 : c → Ev k pc1 L st w x) (h2 : ¬ c → Ev k pc2 L st w x) : Ev k (@ite _ c d pc1 pc2) L st w x := by
  by_cases hc : c
  · rw [if_pos hc]; exact h1 hc
  · rw [if_neg hc]; exact h2 hc
theorem Ev.tt {k pc1 pc2 : Nat} {c : Prop} {L : ix_L} {st : List ix_V} {w : ix_W} {x : Option ix_V × ix_W} {d : Decidable c} (hc : c) (h1 : Ev k pc1 L st w x) : Ev k (@ite _ c d pc1 pc2) L st w x := by
  rw [if_pos hc]; exact h1
theorem Ev.ff {k pc1 pc2 : Nat} {c : Prop} {L : ix_L} {st : List ix_V} {w : ix_W} {x : Option ix_V × ix_W} {d : Decidable c} (hc : ¬ c) (h1 : Ev k pc2 L st w x) : Ev k (@ite _ c d pc1 pc2) L st w x := by
  rw [if_neg hc]; exact h1
theorem Ev.iret {k pc : Nat} {L : ix_L} {v : Int32} {w : ix_W} {E : ix_E} {r : ix_V} (he : ix_lk k pc = some E) (hk : ix_kd E = 1) (hv : .inl v = r) (hr : ix_rt k = 1) : Ev k pc L [.inl v] w (some r, w) := ⟨1, by
  subst hv
  rw [ix_run, he]
  dsimp only
  rw [hk]
  show ix_iret k _ _ = _
  rw [ix_iret, if_pos (Or.inl hr)]⟩
theorem Ev.zret {k pc : Nat} {L : ix_L} {v : Int32} {w : ix_W} {E : ix_E} {r : ix_V} (he : ix_lk k pc = some E) (hk : ix_kd E = 1) (hv : .inl v = r) (hr : ix_rt k = 2) (h01 : v = 0 ∨ v = 1) : Ev k pc L [.inl v] w (some r, w) := ⟨1, by
  subst hv
  rw [ix_run, he]
  dsimp only
  rw [hk]
  show ix_iret k _ _ = _
  rw [ix_iret, if_pos (Or.inr ⟨hr, h01⟩)]⟩
theorem Ev.vret {k pc : Nat} {L : ix_L} {w : ix_W} {E : ix_E} (he : ix_lk k pc = some E) (hk : ix_kd E = 2) (hr : ix_rt k = 0) : Ev k pc L [] w (none, w) := ⟨1, by
  rw [ix_run, he]
  dsimp only
  rw [hk]
  show ix_vret k _ _ = _
  rw [ix_vret, if_pos hr]⟩
theorem Ev.st1 {k pc pc1 : Nat} {L L1 : ix_L} {st st1 : List ix_V} {w w1 : ix_W} {x : Option ix_V × ix_W} {E : ix_E} (he : ix_lk k pc = some E) (hk : ix_kd E = 0) (hs : ix_st pc E L st w = some (pc1, L1, st1, w1)) (kk : Ev k pc1 L1 st1 w1 x) : Ev k pc L st w x := by
  obtain ⟨m, hm⟩ := kk
  refine ⟨m + 1, ?_⟩
  rw [ix_run, he]
  dsimp only
  rw [hk]
  rw [hs]
  exact hm
theorem Ev.ald {k pc : Nat} {L : ix_L} {st : List ix_V} {w : ix_W} {x : Option ix_V × ix_W} {nx a0 b0 j0 : Nat} {v0 : Int32} {q n a : Nat} {f : Nat → Int32} (he : ix_lk k pc = some (.iaload, nx, a0, b0, j0, v0)) (hq : w[q]? = some (.inl (n, f))) (ha : a < n) (hn : n < 2 ^ 31) (kk : Ev k nx L (.inl (f a) :: st) w x) : Ev k pc L (.inl (nI a) :: .inr q :: st) w x := by
  refine Ev.st1 he rfl ?_ kk
  simp only [ix_st, ix_iald]
  rw [hq]
  dsimp only
  rw [if_neg (nI_in ha hn), nI_clamp (Nat.lt_trans ha hn)]
theorem Ev.ast {k pc : Nat} {L : ix_L} {st : List ix_V} {w : ix_W} {x : Option ix_V × ix_W} {nx a0 b0 j0 : Nat} {v0 : Int32} {q n a : Nat} {f : Nat → Int32} {y : Int32} (he : ix_lk k pc = some (.iastore, nx, a0, b0, j0, v0)) (hq : w[q]? = some (.inl (n, f))) (ha : a < n) (hn : n < 2 ^ 31) (kk : Ev k nx L st (w.set q (.inl (n, upd f a y))) x) : Ev k pc L (.inl y :: .inl (nI a) :: .inr q :: st) w x := by
  refine Ev.st1 he rfl ?_ kk
  simp only [ix_st, ix_iast]
  rw [hq]
  dsimp only
  rw [if_neg (nI_in ha hn), nI_clamp (Nat.lt_trans ha hn)]
theorem Ev.dv {k pc : Nat} {L : ix_L} {st : List ix_V} {w : ix_W} {z : Option ix_V × ix_W} {nx a0 b0 j0 : Nat} {v0 x y : Int32} (he : ix_lk k pc = some (.idiv, nx, a0, b0, j0, v0)) (hy : y ≠ 0) (kk : Ev k nx L (.inl (x / y) :: st) w z) : Ev k pc L (.inl y :: .inl x :: st) w z := by
  refine Ev.st1 he rfl ?_ kk
  simp only [ix_st, ix_dv]
  rw [if_neg hy]
theorem Ev.rm {k pc : Nat} {L : ix_L} {st : List ix_V} {w : ix_W} {z : Option ix_V × ix_W} {nx a0 b0 j0 : Nat} {v0 x y : Int32} (he : ix_lk k pc = some (.irem, nx, a0, b0, j0, v0)) (hy : y ≠ 0) (kk : Ev k nx L (.inl (x - x / y * y) :: st) w z) : Ev k pc L (.inl y :: .inl x :: st) w z := by
  refine Ev.st1 he rfl ?_ kk
  simp only [ix_st, ix_dv]
  rw [if_neg hy]
theorem Ev.callS {k pc : Nat} {L : ix_L} {st rest : List ix_V} {w w1 : ix_W} {x : Option ix_V × ix_W} {i nx k2 b0 j0 : Nat} {v0 : Int32} {as : List ix_V} {r : Option ix_V} (he : ix_lk k pc = some (.invokestatic i, nx, k2, b0, j0, v0)) (hs : ix_cs k k2 st = some (as, rest)) (hc : Cl k2 as w r w1) (kk : Ev k nx L (r.toList ++ rest) w1 x) : Ev k pc L st w x := by
  obtain ⟨m, hm⟩ := kk
  obtain ⟨m2, hm2⟩ := hc
  refine ⟨max m m2 + 1, ?_⟩
  rw [ix_run, he]
  simp only [ix_kd]
  rw [hs]
  simp only [Option.bind_some]
  rw [ix_mono (Nat.le_max_right m m2) hm2]
  exact ix_mono (Nat.le_max_left m m2) hm
theorem Ev.callV {k pc : Nat} {L : ix_L} {st rest : List ix_V} {w w1 : ix_W} {x : Option ix_V × ix_W} {i nx k2 b0 j0 : Nat} {v0 : Int32} {as : List ix_V} {r : Option ix_V} (he : ix_lk k pc = some (.invokevirtual i, nx, k2, b0, j0, v0)) (hs : ix_cv k k2 st w = some (as, rest)) (hc : Cl k2 as w r w1) (kk : Ev k nx L (r.toList ++ rest) w1 x) : Ev k pc L st w x := by
  obtain ⟨m, hm⟩ := kk
  obtain ⟨m2, hm2⟩ := hc
  refine ⟨max m m2 + 1, ?_⟩
  rw [ix_run, he]
  simp only [ix_kd]
  rw [hs]
  simp only [Option.bind_some]
  rw [ix_mono (Nat.le_max_right m m2) hm2]
  exact ix_mono (Nat.le_max_left m m2) hm
/-- 0: goes on; 1: done, then stop; 2: stop ahead of it -/
def ix_bk (e : ix_E) : Nat := match e.1 with
  | .ifCond _ _ => 1
  | .if_icmp _ _ => 1
  | .iaload => 2
  | .iastore => 2
  | .idiv => 2
  | .irem => 2
  | .invokestatic _ => 2
  | .invokevirtual _ => 2
  | .ireturn => 2
  | .return_ => 2
  | .tableswitch _ _ _ _ => 2
  | _ => 0
/-- runs on until it is at 'stop', or something stands in the way -/
def ix_sm (stop : Nat) : Nat → Nat → ix_S → Option ix_S
  | 0, _, z => some z
  | n + 1, k, (pc, L, st, w) => if pc = stop then some (pc, L, st, w) else match ix_lk k pc with
    | some e => match ix_bk e with
      | 0 => match ix_st pc e L st w with
        | some z => ix_sm stop n k z
        | none => none
      | 1 => ix_st pc e L st w
      | _ => some (pc, L, st, w)
    | none => none
theorem ix_bk_kd {e : ix_E} (h : ix_bk e = 0 ∨ ix_bk e = 1) : ix_kd e = 0 := by
  obtain ⟨i, r⟩ := e
  cases i <;> first | rfl | (simp [ix_bk] at h; done)
theorem Ev.to {k pc pc1 : Nat} {L L1 : ix_L} {st st1 : List ix_V} {w w1 : ix_W} {x : Option ix_V × ix_W} (stop : Nat) (h : ix_sm stop 60 k (pc, L, st, w) = some (pc1, L1, st1, w1)) (kk : Ev k pc1 L1 st1 w1 x) : Ev k pc L st w x := by
  generalize 60 = n at h
  induction n generalizing pc L st w with
  | zero =>
    rw [ix_sm] at h
    cases h
    exact kk
  | succ n ih =>
    rw [ix_sm] at h
    split at h
    · cases h; exact kk
    · split at h
      · rename_i e he
        split at h
        · rename_i hk
          split at h
          · rename_i z hz
            obtain ⟨z1, z2, z3, z4⟩ := z
            exact Ev.st1 he (ix_bk_kd (Or.inl hk)) hz (ih h)
          · cases h
        · rename_i hk
          exact Ev.st1 he (ix_bk_kd (Or.inr hk)) h kk
        · cases h
          exact kk
      · cases h
theorem Ev.eq {k pc : Nat} {L L1 : ix_L} {st st1 : List ix_V} {w w1 : ix_W} {x : Option ix_V × ix_W} (hL : L = L1) (hs : st = st1) (hw : w = w1) (h : Ev k pc L1 st1 w1 x) : Ev k pc L st w x := by
  subst hL hs hw; exact h
theorem Cl.eq {k : Nat} {as as1 : List ix_V} {w w1 : ix_W} {r r1 : Option ix_V} (h : Cl k as w r w1) (ha : as = as1) (hr : r = r1) : Cl k as1 w r1 w1 := by
  subst ha hr; exact h
theorem Ev.aldE {k pc : Nat} {L : ix_L} {st : List ix_V} {w : ix_W} {x : Option ix_V × ix_W} {nx a0 b0 j0 : Nat} {v0 y : Int32} {q n : Nat} {f : Nat → Int32} (a : Nat) (hy : y = nI a) (he : ix_lk k pc = some (.iaload, nx, a0, b0, j0, v0)) (hq : w[q]? = some (.inl (n, f))) (ha : a < n) (hn : n < 2 ^ 31) (kk : Ev k nx L (.inl (f a) :: st) w x) : Ev k pc L (.inl y :: .inr q :: st) w x := by
  subst hy; exact Ev.ald he hq ha hn kk
theorem Ev.astE {k pc : Nat} {L : ix_L} {st : List ix_V} {w : ix_W} {x : Option ix_V × ix_W} {nx a0 b0 j0 : Nat} {v0 z : Int32} {q n : Nat} {f : Nat → Int32} {y : Int32} (a : Nat) (hz : z = nI a) (he : ix_lk k pc = some (.iastore, nx, a0, b0, j0, v0)) (hq : w[q]? = some (.inl (n, f))) (ha : a < n) (hn : n < 2 ^ 31) (kk : Ev k nx L st (w.set q (.inl (n, upd f a y))) x) : Ev k pc L (.inl y :: .inl z :: .inr q :: st) w x := by
  subst hz; exact Ev.ast he hq ha hn kk
/-- a loop that counts -/
theorem Ev.loop {k pc : Nat} {x : Option ix_V × ix_W} {st : List ix_V} (L : Nat → ix_L) (w : Nat → ix_W) (P : Nat → Prop) (a N : Nat) (hle : a ≤ N) (h0 : P a) (step : ∀ i, a ≤ i → i < N → P i → (P (i + 1) → Ev k pc (L (i + 1)) st (w (i + 1)) x) → Ev k pc (L i) st (w i) x) (fin : P N → Ev k pc (L N) st (w N) x) : Ev k pc (L a) st (w a) x := by
  obtain ⟨d, rfl⟩ := Nat.exists_eq_add_of_le hle
  clear hle
  induction d generalizing a with
  | zero => exact fin h0
  | succ d ih =>
    refine step a (Nat.le_refl a) (by omega) h0 (fun h1 => ?_)
    refine ih (a + 1) h1 (fun i hi hi2 => step i (by omega) (by omega)) ?_
    rw [show a + 1 + d = a + (d + 1) by omega]
    exact fin
/-- a loop by a measure that falls -/
theorem Ev.while {k pc : Nat} {x : Option ix_V × ix_W} {st : List ix_V} {σ : Type} (L : σ → ix_L) (w : σ → ix_W) (P : σ → Prop) (μ : σ → Nat) (step : ∀ s, P s → (∀ s2, P s2 → μ s2 < μ s → Ev k pc (L s2) st (w s2) x) → Ev k pc (L s) st (w s) x) (s : σ) (h0 : P s) : Ev k pc (L s) st (w s) x := by
  have key : ∀ d s, μ s < d → P s → Ev k pc (L s) st (w s) x := by
    intro d
    induction d with
    | zero => intro s h; exact absurd h (by omega)
    | succ d ih => intro s h hp; exact step s hp (fun s2 h2 h3 => ih s2 (by omega) h2)
  exact key (μ s + 1) s (Nat.lt_succ_self _) h0
/-- a fold that counts -/
def fd {α : Type} (g : Nat → α → α) (s : α) : Nat → α
  | 0 => s
  | n + 1 => g n (fd g s n)
/-- bit j -/
def bb (s : Int32) (j : Nat) : Bool := decide (¬ ((s >>> (nI j &&& 31)) &&& 1 = 0))
abbrev cw (n : Nat) (c : Int32) (tb tn : Nat → Int32) (tl : Nat) (se on : Nat → Int32) (dd : Int32) (ch ro ot ow tr tu ld : Nat → Int32) (lc : Nat) (cc br bw : Int32) : ix_W := [.inr (4, [.inr 1, .inr 2, .inr 3, .inr 4, .inr 5, .inr 6]), .inr (3, [.inr 7, .inr 8, .inl (nI n), .inl c]), .inr (2, [.inr 9, .inr 10, .inl (nI tl)]), .inr (1, [.inr 11, .inl dd]), .inr (0, [.inr 12, .inr 13, .inr 14, .inr 15, .inl (nI lc), .inl cc, .inl br, .inl bw]), .inl (256, ro), .inl (256, ot), .inl (64, tb), .inl (64, tn), .inl (6, se), .inl (6, on), .inl (8, ch), .inl (20, ow), .inl (20, tr), .inl (20, tu), .inl (14, ld)]
abbrev mw (n : Nat) (c : Int32) (tb : Nat → Int32) (tl : Nat) (se on : Nat → Int32) (dd : Int32) (ch : Nat → Int32) (fs fo : Int32) (cm : Nat) (ce li ke be : Nat → Int32) : ix_W := [.inr (5, [.inl (nI n), .inl c, .inr 1, .inl (nI tl), .inr 2, .inr 3, .inl dd, .inr 4, .inl fs, .inl fo, .inl (nI cm), .inr 5, .inr 6, .inr 7, .inr 8]), .inl (64, tb), .inl (6, se), .inl (6, on), .inl (8, ch), .inl (14, ce), .inl (64, li), .inl (64, ke), .inl (256, be)]
