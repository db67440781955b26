/-! the law: a call in it -/
abbrev ag (xs : Nat → Int32) (k j : Nat) : Int32 := xs (nI (6 * k) + nI j).toNatClampNeg
theorem D_left {A : Nat → Prop} {x y : va_W} (h : va_D A (x ++ y)) : va_D A x := by
  have at' : ∀ (i : Nat) (p : Nat × va_E), x[i]? = some p → (x ++ y)[i]? = some p := fun i p hi => by
    rw [List.getElem?_append_left (List.getElem?_eq_some_iff.mp hi).1]; exact hi
  exact ⟨fun i j p q hi hj e => h.1 i j p q (at' i p hi) (at' j q hj) e, fun k q hk => h.2 k q (at' k q hk)⟩
theorem at_right {x y : va_W} {i : Nat} {p : Nat × va_E} (hi : y[i]? = some p) : (x ++ y)[x.length + i]? = some p := by
  rw [List.getElem?_append_right (by omega), show x.length + i - x.length = i by omega]; exact hi
theorem at_left {x y : va_W} {i : Nat} {p : Nat × va_E} (hi : x[i]? = some p) : (x ++ y)[i]? = some p := by
  rw [List.getElem?_append_left (List.getElem?_eq_some_iff.mp hi).1]; exact hi
theorem D_right {A : Nat → Prop} {x y : va_W} (h : va_D A (x ++ y)) : va_D A y := ⟨fun i j p q hi hj e => by
    have := h.1 _ _ p q (at_right hi) (at_right hj) e
    omega, fun k q hk => h.2 _ q (at_right hk)⟩
theorem join2 {A0 : Nat → Prop} {D : va_G} {cl : List vw_C} {wx wy w1 : va_W} {H H1 : Heap} (hP : va_P D cl (wx ++ wy) H) (hD : va_D A0 (wx ++ wy)) (hk : ∀ q : Nat, q < H.size → ¬ va_A wx H.size q → H1[q]? = H[q]?) (hF : ∀ q, va_A wx H.size q → A0 q) (hP1 : va_P D cl w1 H1) (hD1 : va_D (va_A wx H.size) w1) : va_P D cl (wy ++ w1) H1 ∧ va_D A0 (wy ++ w1) := by
  have apart : ∀ (k : Nat) (q : Nat × va_E), wy[k]? = some q → q.1 < H.size ∧ ¬ va_A wx H.size q.1 := by
    intro k q hq
    have hl := (hP _ q (at_right hq)).lt
    refine ⟨hl, fun h => ?_⟩
    rcases h with ⟨k2, e, h⟩ | h
    · have hlt := (List.getElem?_eq_some_iff.mp h).1
      have := hD.1 _ _ q (q.1, e) (at_right hq) (at_left h) rfl
      omega
    · omega
  refine ⟨va_P.app (fun k q hq => ?_) hP1, va_D.app (D_right hD) (hD1.weaken (fun k q _ h => hF q.1 h)) (fun i j x y hx hy hxy => ?_)⟩
  · obtain ⟨g1, g2⟩ := apart k q hq
    exact (hP _ q (at_right hq)).kept (hk q.1 g1 g2)
  · exact (apart i x hx).2 (by rw [hxy]; exact hD1.2 j y hy)
set_option maxHeartbeats 4000000 in
theorem lw_call {p : Program} {l : Launch} {e : Env} {s : State} {m : MethodId} {below : List Frame} {meth : Method} {c : Code} {b L : Nat} {xs : Nat → Int32} (C0 : lw_At p s m meth c b L xs) {dC : Nat → ClassId} {dI : Nat → Nat → Nat} {cA : ClassId} (hK : va_K (dC, dI) vwCl [(cA, .int)] s) (hN : ix_NW s) {Q : State → Prop} {H : Heap} {locs : List Loc} {pc : Nat} {ls : Array Slot} {rest : List Value} {ad : Nat → Nat} {w w1 : ix_W} {wy : va_W} {k index ci : Nat} {as : List ix_V} {r : Int32} {fs : List ix_V} (hcl : Cl k (.inr 0 :: as) w (some (.inl r)) w1) (hk : k < ix_N) (hci : ix_ci k = ci) (h99 : ci ≠ 99) (hw0 : w[0]? = some (.inr (ci, fs))) (hna : as.length + 1 = ix_na k) (hnl : as.length + 1 ≤ ix_ml k) (hl : .methodLink R_law index (ix_y k) ∈ ix_gw) (hR : ix_rk k + 1 ≤ 9 ∧ 8 + (ix_ml k + 11) + ix_lr k ≤ 320) (hsz : ls.size = 4) (hW : (rest.map fun v => v.category).sum ≤ 8) (hdg : decode cL_law pc = .ok (.invokevirtual index, 3)) (hP : va_P (dC, dI) vwCl (ix_mw ad cA w ++ wy) H) (hD : va_D (fun q : Nat => s.heap.size ≤ q) (ix_mw ad cA w ++ wy)) (hS : va_S (fun q : Nat => s.heap.size ≤ q) s.heap H locs)
    (kk : ∀ (H1 : Heap) (locs1 : List Loc), va_P (dC, dI) vwCl (wy ++ ix_mw ad cA w1) H1 → va_D (fun q : Nat => s.heap.size ≤ q) (wy ++ ix_mw ad cA w1) → va_S (fun q : Nat => s.heap.size ≤ q) s.heap H1 locs1 → W p l e room_1 s m #[Value.ref b] below meth c H1 locs1 25 1254 Q (F0 m (pc + 3) ls (.int r :: rest))) : W p l e room_1 s m #[Value.ref b] below meth c H locs 25 1254 Q (F0 m pc ls ((as.map (ix_v ad)).reverse ++ Value.ref (ad 0) :: rest)) := by
  obtain ⟨hx, hb, hr, hml, hown, hts, hX, hbl, hlocks, hgv⟩ := C0
  have hgw : ∀ w ∈ ix_gw, w.before #[Value.ref b] s = true := fun w hw => hts w (List.mem_filter.mp hw).1
  obtain ⟨n, hrun⟩ := hcl
  subst hci
  obtain ⟨b1, b2, b3, -, -, -, b5⟩ := ix_mbs hk
  obtain ⟨b6, b8, b7, qc, hqc, hqy⟩ := b5 h99
  have hpar : (parseMethodDescriptor (ix_y k).desc).map (fun d => d.parameters.length) = some as.length := by
    cases hpd : parseMethodDescriptor (ix_y k).desc with
    | none => rw [hpd] at b7; cases b7
    | some d =>
      rw [hpd] at b7
      have : d.parameters.length + 1 = ix_na k := Option.some.inj b7
      show some d.parameters.length = some as.length
      rw [show d.parameters.length = as.length by omega]
  have hM := ix_met (ix_sound l n) hrun hk (by rw [List.length_cons]; exact hnl) ad cA dC dI H.size
  have hPx : va_P (dC, dI) vwCl (ix_mw ad cA w) H := fun i q hi => hP i q (at_left hi)
  have hDx := D_left hD
  have hblind : FrameBlind (va_Pc ((Sum.inr 0 :: as).map (ix_v ad)) (fun U => U.heap.size = H.size ∧ va_P (dC, dI) vwCl (ix_mw ad cA w) U.heap ∧ va_K (dC, dI) vwCl [(cA, .int)] U ∧ va_D (fun _ => True) (ix_mw ad cA w) ∧ ix_NW U)) := fun a U g mk q => by
    obtain ⟨q0, q1, qP, qK, qD, qN⟩ := q
    exact ⟨q0, q1, qP, va_K.moved (u := U) (U := U.calling g mk a) (Vm.Alike.refl U.vm) qK, qD, ix_NW.same (u := U) (U := U.calling g mk a) rfl qN⟩
  have hpre : PreV s H (ix_y k).cls (ad 0) (va_Pc ((Sum.inr 0 :: as).map (ix_v ad)) (fun U => U.heap.size = H.size ∧ va_P (dC, dI) vwCl (ix_mw ad cA w) U.heap ∧ va_K (dC, dI) vwCl [(cA, .int)] U ∧ va_D (fun _ => True) (ix_mw ad cA w) ∧ ix_NW U)) (as.map (ix_v ad)) := ⟨hblind, by rw [← hqy]; exact va_recv hK hPx hqc (ix_mw_at hw0), fun U hU hW => ⟨rfl, by rw [hU], by rw [hU]; exact hPx, va_K.moved hW.alike hK, hDx.weaken (fun _ _ _ _ => trivial), hN.warm hW⟩⟩
  have hF : ∀ q, va_A (ix_mw ad cA w) H.size q → s.heap.size ≤ q := by
    intro q hq
    rcases hq with ⟨k1, e1, hq⟩ | hq
    · exact hDx.2 k1 _ hq
    · exact Nat.le_trans hS.1 hq
  have hrun : va_Run p l e room_1 s m #[Value.ref b] below meth c H locs 25 1254 0 0 (F0 m pc ls ((as.map (ix_v ad)).reverse ++ Value.ref (ad 0) :: rest)) rest (ix_Q ad cA dC dI (va_A (ix_mw ad cA w) H.size) (some (.inl r)) w1 (Value.ref (ad 0) :: as.map (ix_v ad)).toArray) (va_A (ix_mw ad cA w) H.size) :=
    va_runV (n := as.length) (bytes := ix_c k) (maxL := ix_ml k) (ret := ix_r k) (nL := 4) ⟨hx, hb, hml, hown, hgw⟩ hM ⟨callB_of as.length hgw (ix_good b1) rfl rfl rfl (hgw _ b2) (hgw _ hl) ⟨b3.1, b3.2, hpar⟩ hR, hgw _ b6, hgw _ b8⟩ hpre rfl (by rw [List.length_map]) hsz rfl (lv_room hW) hdg ⟨Nat.le_refl 25, Nat.le_refl 1254⟩
  refine ix_call hrun hS (fun q _ h => hF q h) hF (fun H1 locs1 hP1 hD1 hz1 hk1 hS1 => ?_)
  obtain ⟨hP2, hD2⟩ := join2 hP hD hk1 hF hP1 hD1
  exact kk H1 locs1 hP2 hD2 hS1
theorem Rel.c0 {k : Nat} {wc wm : ix_W} (R : Rel k wc wm) : ∃ fs, wc[0]? = some (.inr (4, fs)) := by
  obtain ⟨n, c, tb, tl, se, on, dd, ch, tn, ro, ot, ow, tr, tu, ld, lc, cc, br, bw, fs, fo, cm, ce, li, ke, be, rfl, rfl, I⟩ := R
  exact ⟨_, rfl⟩
theorem Rel.m0 {k : Nat} {wc wm : ix_W} (R : Rel k wc wm) : ∃ fs, wm[0]? = some (.inr (5, fs)) := by
  obtain ⟨n, c, tb, tl, se, on, dd, ch, tn, ro, ot, ow, tr, tu, ld, lc, cc, br, bw, fs, fo, cm, ce, li, ke, be, rfl, rfl, I⟩ := R
  exact ⟨_, rfl⟩
theorem Rel.up {k : Nat} {wc wm : ix_W} (R : Rel k wc wm) : Rel (k + 1) wc wm := by
  obtain ⟨n, c, tb, tl, se, on, dd, ch, tn, ro, ot, ow, tr, tu, ld, lc, cc, br, bw, fs, fo, cm, ce, li, ke, be, rfl, rfl, I⟩ := R
  exact Rel.mk' I.up
theorem ag_in {k j L : Nat} (h : 6 * k + j < L) (hL : L ≤ 3072) : vp_in (nI (6 * k) + nI j) L := by
  rw [nI_add]
  exact vp_in_nI h (by omega)
