/-! one instruction of the small machine, on the machine -/
set_option maxHeartbeats 4000000 in
theorem ix_step {l : Launch} {p : Program} {e : Env} {s : State} {m : MethodId} {args : Array Value} {below : List Frame} {meth : Method} {c : Code} {ad : Nat → Nat} {cA : ClassId} {dC : Nat → ClassId} {dI : Nat → Nat → Nat} {A : Nat → Prop} {k : Nat} {Q : State → Prop} (X : ix_X p s m args meth c k dC dI cA A)
    {pc : Nat} {E : ix_E} (he : ix_lk k pc = some E) (hkd : ix_kd E = 0) {L : ix_L} {st : List ix_V} {w : ix_W} {pc1 : Nat} {L1 : ix_L} {st1 : List ix_V} {w1 : ix_W} (hst : ix_st pc E L st w = some (pc1, L1, st1, w1))
    {H : Heap} {locs : List Loc} {ls : Array Slot} (hP : va_P (dC, dI) vwCl (ix_mw ad cA w) H) (hD : va_D A (ix_mw ad cA w)) (hS : va_S A s.heap H locs) (hl : ix_lv ad ls (ix_ml k) L)
    (kk : ∀ (H1 : Heap) (locs1 : List Loc) (ls1 : Array Slot), va_P (dC, dI) vwCl (ix_mw ad cA w1) H1 → va_D A (ix_mw ad cA w1) → va_S A s.heap H1 locs1 → ix_lv ad ls1 (ix_ml k) L1 → W p l e (ix_rm k) s m args below meth c H1 locs1 0 0 Q (F0 m pc1 ls1 (st1.map (ix_v ad)))) :
    W p l e (ix_rm k) s m args below meth c H locs 0 0 Q (F0 m pc ls (st.map (ix_v ad))) := by
  obtain ⟨hx, hb, hml, hr, hlk, hown, hts, hK, hN, hA, hkN⟩ := X
  obtain ⟨hdg, hok⟩ := ix_ok he
  obtain ⟨i, nx, a, b, j, v⟩ := E
  dsimp only at hdg
  have push : ∀ {len : Nat} {x : Int32}, nx = pc + len → ix_push nx x L st w = some (pc1, L1, st1, w1) → W p l e (ix_rm k) s m args below meth c H locs 0 0 Q (F0 m (pc + len) ls (.int x :: st.map (ix_v ad))) := by
    intro len x hn h
    simp only [ix_push, Option.some.injEq, Prod.mk.injEq] at h
    obtain ⟨e1, e2, e3, e4⟩ := h
    subst e1 e2 e3 e4 hn
    exact kk H locs ls hP hD hS hl
  have store : ∀ {len : Nat}, nx = pc + len → ix_ist nx a L st w = some (pc1, L1, st1, w1) → ∃ (x : Int32) (r : List ix_V), st = .inl x :: r ∧ a < ix_ml k ∧ ∀ ls1, lv_has ls1 (ix_ml k) ((a, Value.int x) :: (ix_as ad L).filter (fun q => !(q.1 == a) && !(q.1 + 1 == a && q.2.category == 2))) → W p l e (ix_rm k) s m args below meth c H locs 0 0 Q (F0 m (pc + len) ls1 (r.map (ix_v ad))) := by
    intro len hn h
    unfold ix_ist at h
    split at h
    · rename_i x r
      split at h
      · rename_i ha
        simp only [Option.some.injEq, Prod.mk.injEq] at h
        obtain ⟨e1, e2, e3, e4⟩ := h
        subst e1 e2 e3 e4 hn
        rw [hl.1] at ha
        exact ⟨x, r, rfl, ha, fun ls1 h1 => kk H locs ls1 hP hD hS (hl.back (x := .inl x) ha h1)⟩
      · cases h
    · cases h
  have load : ∀ {len : Nat}, nx = pc + len → ix_ild nx a L st w = some (pc1, L1, st1, w1) → ∃ x : Int32, ls[a]? = some (.val (.int x)) ∧ W p l e (ix_rm k) s m args below meth c H locs 0 0 Q (F0 m (pc + len) ls (.int x :: st.map (ix_v ad))) := by
    intro len hn h
    unfold ix_ild at h
    split at h
    · rename_i x hx
      simp only [Option.some.injEq, Prod.mk.injEq] at h
      obtain ⟨e1, e2, e3, e4⟩ := h
      subst e1 e2 e3 e4 hn
      exact ⟨x, hl.2.2.2 _ _ hx, kk H locs ls hP hD hS hl⟩
    · cases h
  have bin : ∀ {f : Int32 → Int32 → Int32}, nx = pc + 1 → ix_bi f nx L st w = some (pc1, L1, st1, w1) → ∃ (x y : Int32) (r : List ix_V), st = .inl y :: .inl x :: r ∧ W p l e (ix_rm k) s m args below meth c H locs 0 0 Q (F0 m (pc + 1) ls (.int (f x y) :: r.map (ix_v ad))) := by
    intro f hn h
    unfold ix_bi at h
    split at h
    · rename_i y x r
      simp only [Option.some.injEq, Prod.mk.injEq] at h
      obtain ⟨e1, e2, e3, e4⟩ := h
      subst e1 e2 e3 e4 hn
      exact ⟨x, y, r, rfl, kk H locs ls hP hD hS hl⟩
    · cases h
  have div : ∀ {f : Int32 → Int32 → Int32}, nx = pc + 1 → ix_dv f nx L st w = some (pc1, L1, st1, w1) → ∃ (x y : Int32) (r : List ix_V), st = .inl y :: .inl x :: r ∧ ¬ y = 0 ∧ W p l e (ix_rm k) s m args below meth c H locs 0 0 Q (F0 m (pc + 1) ls (.int (f x y) :: r.map (ix_v ad))) := by
    intro f hn h
    unfold ix_dv at h
    split at h
    · rename_i y x r
      split at h
      · cases h
      · rename_i hy
        simp only [Option.some.injEq, Prod.mk.injEq] at h
        obtain ⟨e1, e2, e3, e4⟩ := h
        subst e1 e2 e3 e4 hn
        exact ⟨x, y, r, rfl, hy, kk H locs ls hP hD hS hl⟩
    · cases h
  cases i <;> first | (simp only [ix_st] at hst; cases hst; done) | skip
  all_goals simp only [ix_st] at hst
  all_goals simp only [ix_okX, Bool.and_eq_true, decide_eq_true_eq] at hok
  all_goals simp only [ix_ln] at hdg
  case iconst n => exact lv_iconst hx hb hdg hok.2 (push hok.1 hst)
  case bipush n => exact lv_bipush hx hb hdg hok.2 (push hok.1 hst)
  case sipush n => exact lv_sipush hx hb hdg hok.2 (push hok.1 hst)
  case ldc n => exact lv_ldc hx hb hown (hts _ (ix_wd_in hok.2)) hdg (push hok.1 hst)
  case ldc_w n => exact lv_ldcw hx hb hown (hts _ (ix_wd_in hok.2)) hdg (push hok.1 hst)
  case iload n =>
    obtain ⟨x, h1, h2⟩ := load hok.1 hst
    obtain ⟨-, h3⟩ := hok
    subst h3
    exact lv_iload hx hb hdg h1 h2
  case iload_n n =>
    obtain ⟨x, h1, h2⟩ := load hok.1 hst
    exact lv_iload_n hx hb hdg hok.2 h1 h2
  case aload_n n =>
    unfold ix_ald at hst
    split at hst
    · rename_i x hxx
      simp only [Option.some.injEq, Prod.mk.injEq] at hst
      obtain ⟨e1, e2, e3, e4⟩ := hst
      obtain ⟨h1, h2⟩ := hok
      subst e1 e2 e3 e4 h1
      exact lv_aload_n hx hb hdg h2 (hl.2.2.2 _ _ hxx) (kk H locs ls hP hD hS hl)
    · cases hst
  case istore n =>
    obtain ⟨x, r, e1, h1, h2⟩ := store hok.1 hst
    obtain ⟨-, h3⟩ := hok
    subst h3 e1
    exact lv_istore hx hb hdg hl.has h1 rfl h2
  case istore_n n =>
    obtain ⟨x, r, e1, h1, h2⟩ := store hok.1 hst
    subst e1
    exact lv_istore_n hx hb hdg hok.2 hl.has h1 rfl h2
  case iinc n d =>
    unfold ix_inc at hst
    split at hst
    · rename_i x hxx
      simp only [Option.some.injEq, Prod.mk.injEq] at hst
      obtain ⟨e1, e2, e3, e4⟩ := hst
      obtain ⟨h1, h2, h3⟩ := hok
      subst e1 e2 e3 e4 h1 h2 h3
      have hlt : n < ix_ml k := by rw [← hl.1]; exact (List.getElem?_eq_some_iff.mp hxx).1
      obtain ⟨q, hq⟩ := List.getElem?_of_mem (ix_as_of (ad := ad) hxx)
      exact lv_iinc hx hb hdg hl.has hq rfl hlt rfl (fun ls1 h9 => kk H locs ls1 hP hD hS (hl.back (x := .inl (x + Int32.ofInt d)) hlt h9))
    · cases hst
  case iadd => obtain ⟨x, y, r, e1, h1⟩ := bin hok hst; subst e1; exact lv_iadd hx hb hdg h1
  case isub => obtain ⟨x, y, r, e1, h1⟩ := bin hok hst; subst e1; exact lv_isub hx hb hdg h1
  case imul => obtain ⟨x, y, r, e1, h1⟩ := bin hok hst; subst e1; exact lv_imul hx hb hdg h1
  case iand => obtain ⟨x, y, r, e1, h1⟩ := bin hok hst; subst e1; exact lv_iand hx hb hdg h1
  case ior => obtain ⟨x, y, r, e1, h1⟩ := bin hok hst; subst e1; exact lv_ior hx hb hdg h1
  case ixor => obtain ⟨x, y, r, e1, h1⟩ := bin hok hst; subst e1; exact lv_ixor hx hb hdg h1
  case ishl => obtain ⟨x, y, r, e1, h1⟩ := bin hok hst; subst e1; exact lv_ishl hx hb hdg h1
  case ishr => obtain ⟨x, y, r, e1, h1⟩ := bin hok hst; subst e1; exact lv_ishr hx hb hdg h1
  case iushr => obtain ⟨x, y, r, e1, h1⟩ := bin hok hst; subst e1; exact lv_iushr hx hb hdg rfl h1
  case idiv => obtain ⟨x, y, r, e1, h0, h1⟩ := div hok hst; subst e1; exact lv_idiv hx hb hdg h0 h1
  case irem => obtain ⟨x, y, r, e1, h0, h1⟩ := div hok hst; subst e1; exact lv_irem hx hb hdg h0 h1
  case ineg =>
    unfold ix_un at hst
    split at hst
    · rename_i x r
      simp only [Option.some.injEq, Prod.mk.injEq] at hst
      obtain ⟨e1, e2, e3, e4⟩ := hst
      subst e1 e2 e3 e4 hok
      exact lv_ineg hx hb hdg (kk H locs ls hP hD hS hl)
    · cases hst
  case goto off =>
    simp only [Option.some.injEq, Prod.mk.injEq] at hst
    obtain ⟨e1, e2, e3, e4⟩ := hst
    subst e1 e2 e3 e4
    exact lv_goto hx hb hdg hok.2 (kk H locs ls hP hD hS hl)
  case ifCond cd off =>
    unfold ix_br1 at hst
    split at hst
    · rename_i x r
      simp only [Option.some.injEq, Prod.mk.injEq] at hst
      obtain ⟨e1, e2, e3, e4⟩ := hst
      obtain ⟨h1, h2⟩ := hok
      subst e2 e3 e4 h1
      have go := fun (z : pc1 = a) => (z ▸ kk H locs ls hP hD hS hl : W p l e (ix_rm k) s m args below meth c H locs 0 0 Q (F0 m a ls (r.map (ix_v ad))))
      have no := fun (z : pc1 = pc + 3) => (z ▸ kk H locs ls hP hD hS hl : W p l e (ix_rm k) s m args below meth c H locs 0 0 Q (F0 m (pc + 3) ls (r.map (ix_v ad))))
      cases cd <;> simp only [ix_t1] at e1
      · exact lv_if_eq hx hb hdg h2 (fun q => go (by rw [← e1, if_pos q])) (fun q => no (by rw [← e1, if_neg q]))
      · exact lv_if_ne hx hb hdg h2 (fun q => go (by rw [← e1, if_neg q])) (fun q => no (by rw [← e1, if_pos q]))
      · exact lv_if_lt hx hb hdg h2 (fun q => go (by rw [← e1, if_pos q])) (fun q => no (by rw [← e1, if_neg q]))
      · exact lv_if_ge hx hb hdg h2 (fun q => go (by rw [← e1, if_pos q])) (fun q => no (by rw [← e1, if_neg q]))
      · exact lv_if_gt hx hb hdg h2 (fun q => go (by rw [← e1, if_pos q])) (fun q => no (by rw [← e1, if_neg q]))
      · exact lv_if_le hx hb hdg h2 (fun q => go (by rw [← e1, if_pos q])) (fun q => no (by rw [← e1, if_neg q]))
    · cases hst
  case if_icmp cd off =>
    unfold ix_br2 at hst
    split at hst
    · rename_i y x r
      simp only [Option.some.injEq, Prod.mk.injEq] at hst
      obtain ⟨e1, e2, e3, e4⟩ := hst
      obtain ⟨h1, h2⟩ := hok
      subst e2 e3 e4 h1
      have go := fun (z : pc1 = a) => (z ▸ kk H locs ls hP hD hS hl : W p l e (ix_rm k) s m args below meth c H locs 0 0 Q (F0 m a ls (r.map (ix_v ad))))
      have no := fun (z : pc1 = pc + 3) => (z ▸ kk H locs ls hP hD hS hl : W p l e (ix_rm k) s m args below meth c H locs 0 0 Q (F0 m (pc + 3) ls (r.map (ix_v ad))))
      cases cd <;> simp only [ix_t2] at e1
      · exact lv_icmp_eq hx hb hdg h2 (fun q => go (by rw [← e1, if_pos q])) (fun q => no (by rw [← e1, if_neg q]))
      · exact lv_icmp_ne hx hb hdg h2 (fun q => go (by rw [← e1, if_neg q])) (fun q => no (by rw [← e1, if_pos q]))
      · exact lv_icmp_lt hx hb hdg h2 (fun q => go (by rw [← e1, if_pos q])) (fun q => no (by rw [← e1, if_neg q]))
      · exact lv_icmp_ge hx hb hdg h2 (fun q => go (by rw [← e1, if_pos q])) (fun q => no (by rw [← e1, if_neg q]))
      · exact lv_icmp_gt hx hb hdg h2 (fun q => go (by rw [← e1, if_pos q])) (fun q => no (by rw [← e1, if_neg q]))
      · exact lv_icmp_le hx hb hdg h2 (fun q => go (by rw [← e1, if_pos q])) (fun q => no (by rw [← e1, if_neg q]))
    · cases hst
  case getfield n =>
    obtain ⟨h1, h2⟩ := hok
    split at h2
    · rename_i C T N hC
      simp only [Bool.and_eq_true, decide_eq_true_eq] at h2
      unfold ix_get at hst
      split at hst
      · rename_i q r
        split at hst
        · rename_i ci fs hq
          split at hst
          · rename_i hcb
            split at hst
            · rename_i u hu
              simp only [Option.some.injEq, Prod.mk.injEq] at hst
              obtain ⟨e1, e2, e3, e4⟩ := hst
              subst e1 e2 e3 e4 h1 hcb
              exact va_get hx hb hts (ix_uw hC) hown hK hP q (ix_mw_at hq) hC a h2.1.1 (hts _ (ix_wd_in h2.2)) (fun _ h9 => h9) (v := ix_v ad u) (by rw [List.getElem?_map, hu]; rfl) hdg (kk H locs ls hP hD hS hl)
            · cases hst
          · cases hst
        · cases hst
      · cases hst
    · cases h2
  case putfield n =>
    obtain ⟨h1, h2⟩ := hok
    split at h2
    · rename_i C T N hC
      simp only [Bool.and_eq_true, decide_eq_true_eq] at h2
      unfold ix_put at hst
      split at hst
      · rename_i x q r
        split at hst
        · rename_i ci fs hq
          split at hst
          · rename_i hcb
            simp only [Option.some.injEq, Prod.mk.injEq] at hst
            obtain ⟨e1, e2, e3, e4⟩ := hst
            obtain ⟨hc1, hc2⟩ := hcb
            subst e1 e2 e3 e4 h1 hc1
            obtain ⟨⟨ty0, hty⟩, hnm⟩ := ix_ut hC
            have hd : parseFieldDescriptor (T a).2.2.1 = some .int := by rw [h2.1.2.1]; decide +kernel
            refine va_put hx hb hts (ix_uw hC) ty0 hty hnm hown hK hP hD hS q (ix_mw_at hq) hC a h2.1.1 (hts _ (ix_wd_in h2.2)) (fun _ h9 => h9) h2.1.2.2 (ty := .int) (v := .int x) hd rfl rfl (by rw [List.length_map]; exact hc2) hdg (fun H1 locs1 hP1 hD1 hS1 => ?_)
            have e : ix_mw ad cA (w.set q (.inr (ci, fs.set a (.inl x)))) = (ix_mw ad cA w).set q (ad q, .inr (ci, (fs.map (ix_v ad)).set a (.int x))) := by
              rw [ix_mw_set, ix_ce, List.map_set]; rfl
            exact kk H1 locs1 ls (by rw [e]; exact hP1) (by rw [e]; exact hD1) hS1 hl
          · cases hst
        · cases hst
      · cases hst
    · cases h2
  case iaload =>
    unfold ix_iald at hst
    split at hst
    · rename_i i q r
      split at hst
      · rename_i n f hq
        split at hst
        · cases hst
        · rename_i hin
          simp only [Option.some.injEq, Prod.mk.injEq] at hst
          obtain ⟨e1, e2, e3, e4⟩ := hst
          subst e1 e2 e3 e4 hok
          exact va_iald hx hb hK hP q 0 (ix_mw_at hq) rfl hin hdg (kk H locs ls hP hD hS hl)
      · cases hst
    · cases hst
  case iastore =>
    unfold ix_iast at hst
    split at hst
    · rename_i x i q r
      split at hst
      · rename_i n f hq
        split at hst
        · cases hst
        · rename_i hin
          simp only [Option.some.injEq, Prod.mk.injEq] at hst
          obtain ⟨e1, e2, e3, e4⟩ := hst
          subst e1 e2 e3 e4 hok
          refine va_iast hx hb hK hP hD hS q 0 (ix_mw_at hq) rfl hin hdg (fun H1 locs1 hP1 hD1 hS1 => ?_)
          have e : ix_mw ad cA (w.set q (.inl (n, upd f i.toNatClampNeg x))) = (ix_mw ad cA w).set q (ad q, .inl (cA, n, .inl (upd f i.toNatClampNeg x))) := by
            rw [ix_mw_set]; rfl
          exact kk H1 locs1 ls (by rw [e]; exact hP1) (by rw [e]; exact hD1) hS1 hl
      · cases hst
    · cases hst
  case arraylength =>
    unfold ix_alen at hst
    split at hst
    · rename_i q r
      split at hst
      · rename_i n f hq
        simp only [Option.some.injEq, Prod.mk.injEq] at hst
        obtain ⟨e1, e2, e3, e4⟩ := hst
        subst e1 e2 e3 e4 hok
        exact va_alen hx hb hK hP q 0 (ix_mw_at hq) rfl rfl hdg (kk H locs ls hP hD hS hl)
      · cases hst
    · cases hst
  case dup =>
    unfold ix_dup at hst
    split at hst
    · rename_i u r
      simp only [Option.some.injEq, Prod.mk.injEq] at hst
      obtain ⟨e1, e2, e3, e4⟩ := hst
      subst e1 e2 e3 e4 hok
      exact lv_dup hx hb hdg (ix_v_cat ad u) (kk H locs ls hP hD hS hl)
    · cases hst
  case dup2 =>
    unfold ix_dup2 at hst
    split at hst
    · rename_i u u2 r
      simp only [Option.some.injEq, Prod.mk.injEq] at hst
      obtain ⟨e1, e2, e3, e4⟩ := hst
      subst e1 e2 e3 e4 hok
      exact lv_dup2_11 hx hb hdg (ix_v_cat ad u) (ix_v_cat ad u2) (kk H locs ls hP hD hS hl)
    · cases hst
  case tableswitch d lo hi offs =>
    unfold ix_tsw at hst
    split at hst
    · rename_i x r
      split at hst
      · rename_i ho
        split at hst
        · rename_i h0
          simp only [Option.some.injEq, Prod.mk.injEq] at hst
          obtain ⟨e1, e2, e3, e4⟩ := hst
          subst e1 e2 e3 e4
          exact lv_tableOut hx hb hdg ho (Int.toNat_of_nonneg h0).symm (kk H locs ls hP hD hS hl)
        · cases hst
      · rename_i ho
        split at hst
        · rename_i off hoff
          split at hst
          · rename_i h0
            simp only [Option.some.injEq, Prod.mk.injEq] at hst
            obtain ⟨e1, e2, e3, e4⟩ := hst
            subst e1 e2 e3 e4
            exact lv_tableIn hx hb hdg (fun q => ho (Or.inl q)) (fun q => ho (Or.inr q)) hoff (Int.toNat_of_nonneg h0).symm (kk H locs ls hP hD hS hl)
          · cases hst
        · cases hst
    · cases hst
  all_goals exact absurd hkd (by simp [ix_kd])
