def cw0 : ix_W := (cw 4 0 (fun _ => 0) (fun _ => 0) 0 (fun _ => 0) (fun _ => 0) 0 (fun _ => 0) (fun _ => 0) (fun _ => 0) (fun _ => 0) (fun _ => 0) (fun _ => 0) (fun _ => 0) 0 0 0 0)
def mw0 : ix_W := (mw 4 0 (fun _ => 0) 0 (fun _ => 0) (fun _ => 0) 0 (fun _ => 0) 0 0 0 (fun _ => 0) (fun _ => 0) (fun _ => 0) (fun _ => 0))
theorem rel_0 : Rel 0 cw0 mw0 := by
  refine Rel.mk' ⟨⟨by omega, by omega, by omega⟩, fun _ _ _ _ => rfl, fun _ _ _ _ _ => rfl, fun q _ => ?_, ?_, fun l hl => absurd hl (by omega), ⟨0, by omega, rfl⟩, ⟨fun _ => 0, fun i _ => ⟨rfl, Nat.two_pow_pos 20⟩, fun _ _ _ => rfl⟩⟩
  · rw [ti_0]; omega
  · rw [ti_0]; omega
theorem join3 {A0 : Nat → Prop} {D : va_G} {cl : List vw_C} {wx wy w1 : va_W} {H H1 : Heap} (hP : va_P D cl (wx ++ wy) H) (hD : va_D A0 (wx ++ wy)) (hk : ∀ q : Nat, q < H.size → ¬ va_A wy H.size q → H1[q]? = H[q]?) (hF : ∀ q, va_A wy H.size q → A0 q) (hP1 : va_P D cl w1 H1) (hD1 : va_D (va_A wy H.size) w1) : va_P D cl (wx ++ w1) H1 ∧ va_D A0 (wx ++ w1) := by
  have apart : ∀ (k : Nat) (q : Nat × va_E), wx[k]? = some q → q.1 < H.size ∧ ¬ va_A wy H.size q.1 := by
    intro k q hq
    have hl := (hP _ q (at_left hq)).lt
    refine ⟨hl, fun h => ?_⟩
    rcases h with ⟨k2, e, h⟩ | h
    · have hlt := (List.getElem?_eq_some_iff.mp hq).1
      have := hD.1 _ _ q (q.1, e) (at_left hq) (at_right h) rfl
      omega
    · omega
  refine ⟨va_P.app (fun k q hq => ?_) hP1, va_D.app (D_left hD) (hD1.weaken (fun k q _ h => hF q.1 h)) (fun i j x y hx hy hxy => ?_)⟩
  · obtain ⟨g1, g2⟩ := apart k q hq
    exact (hP _ q (at_left hq)).kept (hk q.1 g1 g2)
  · exact (apart i x hx).2 (by rw [hxy]; exact hD1.2 j y hy)
set_option maxHeartbeats 4000000 in
set_option maxRecDepth 100000 in
theorem st_A {p : Program} {l : Launch} {e : Env} {s : State} {m : MethodId} {below : List Frame} {meth : Method} {c : Code} {b L : Nat} {xs : Nat → Int32} (C0 : lw_At p s m meth c b L xs) {dC : Nat → ClassId} {dI : Nat → Nat → Nat} {cA : ClassId} (hK : va_K (dC, dI) vwCl [(cA, .int)] s) (hN : ix_NW s) {Q : State → Prop} {ls : Array Slot} (hl : lv_has ls 4 [(0, .ref b)]) (kk : ∀ (ad1 : Nat → Nat) (H : Heap) (locs : List Loc) (ls : Array Slot), lv_has ls 4 [(1, .ref (ad1 0)), (0, .ref b)] → va_P (dC, dI) vwCl (ix_mw ad1 cA cw0) H → va_D (fun q : Nat => s.heap.size ≤ q) (ix_mw ad1 cA cw0) → va_S (fun q : Nat => s.heap.size ≤ q) s.heap H locs → W p l e room_1 s m #[Value.ref b] below meth c H locs 16 757 Q (F0 m 8 ls [])) : W p l e room_1 s m #[Value.ref b] below meth c s.heap [] 0 0 Q (F0 m 0 ls []) := by
  obtain ⟨hx, hb, hr, hml, hown, hts, hX, hbl, hlocks, hgv⟩ := id C0
  have hb : c.code = cL_law := hb
  have hgw : ∀ w ∈ ix_gw, w.before #[Value.ref b] s = true := fun w hw => hts w (List.mem_filter.mp hw).1
  have hA : ∀ q : Nat, s.heap.size ≤ q → (fun q : Nat => s.heap.size ≤ q) q := fun _ h => h
  have hS : va_S (fun q : Nat => s.heap.size ≤ q) s.heap s.heap [] := va_S.rf
  have hP : va_P (dC, dI) vwCl [] s.heap := fun k q h => by simp at h
  have hD : va_D (fun q : Nat => s.heap.size ≤ q) [] := ⟨fun i j p q h => by simp at h, fun k q h => by simp at h⟩
  refine va_new (ci := 4) (fs := [.null, .null, .null, .null, .null, .null]) (C := RX4) (T := TX4) (N := 6) hx hb hgw ix_uw4 tyX4 tyX4_ok hown (hgw (.classLink RL 7 RX4) (ix_wd_in (j := 44) (by decide +kernel))) (hgw (.instantiable RX4 6) (ix_wd_in (j := 45) (by decide +kernel))) (hgw (.initialized RX4) (ix_wd_in (j := 36) (by decide +kernel))) hK hP hD hS hA rfl (by decide +kernel) (Nat.le_of_ble_eq_true rfl) (Nat.le_of_ble_eq_true rfl) dL_law_0 (fun q4 H hP hD hS => ?_)
  have hP : va_P (dC, dI) vwCl [(q4, .inr (4, [.null, .null, .null, .null, .null, .null]))] H := hP
  have hD : va_D (fun q : Nat => s.heap.size ≤ q) [(q4, .inr (4, [.null, .null, .null, .null, .null, .null]))] := hD
  refine W.widen (k := 1) (n := 6) (by omega) (by omega) ?_
  refine lv_dup hx hb dL_law_3 rfl ?_
  have hFc := va_free (wc := [(q4, .inr (4, [.null, .null, .null, .null, .null, .null]))]) hD hS hA [0] rfl
  refine va_callv (va_runI (As := []) (rest := [.ref q4]) ⟨hx, hb, hml, hown, hgw⟩ (n_X4 l dC dI cA q4 H.size) (cwI 0 hgw (n_good (ix_wd_in (j := 48) (by decide +kernel))) rfl rfl rfl (hgw (.initialized RX4) (ix_wd_in (j := 36) (by decide +kernel))) (hgw (.methodLink RL 9 yX4_init) (ix_wd_in (j := 46) (by decide +kernel))) (hgw (.instanceMethod yX4_init) (ix_wd_in (j := 47) (by decide +kernel))) rfl (by decide +kernel) ⟨Nat.le_of_ble_eq_true rfl, Nat.le_of_ble_eq_true rfl⟩) ⟨fun a U g mk q => by obtain ⟨q0, q1, qP, qK, qD, qN⟩ := q; exact ⟨q0, q1, qP, va_K.moved (u := U) (U := U.calling g mk a) (Vm.Alike.refl U.vm) qK, qD, ix_NW.same (u := U) (U := U.calling g mk a) rfl qN⟩, fun U hU hW => ⟨rfl, by rw [hU], by rw [hU]; exact hP, va_K.moved hW.alike hK, hD.weaken (fun _ _ _ _ => trivial), hN.warm hW⟩⟩ rfl rfl hl.1 rfl (lv_room (Nat.le_of_ble_eq_true rfl)) dL_law_4 ⟨Nat.le_of_ble_eq_true rfl, Nat.le_of_ble_eq_true rfl⟩) hS (fun q _ h => hFc q h) hFc (fun ad1 t H1 locs ht hvm had1 hB hz1 hk1 hS => ?_)
  obtain ⟨hP1, hK1, hD1⟩ := hB
  rw [ht] at hP1
  have hD1 := hD1.weaken (fun _ q _ h => hFc q.1 h)
  refine W.widen (k := 16) (n := 757) (Nat.le_of_ble_eq_true rfl) (Nat.le_of_ble_eq_true rfl) ?_
  refine lv_astore_n (lv' := [(1, .ref q4), (0, .ref b)]) hx hb dL_law_7 rfl hl (by decide) rfl (fun ls hl => ?_)
  rw [← had1] at hl
  exact kk ad1 H1 locs ls hl hP1 hD1 hS
set_option maxHeartbeats 4000000 in
set_option maxRecDepth 100000 in
theorem st_B {p : Program} {l : Launch} {e : Env} {s : State} {m : MethodId} {below : List Frame} {meth : Method} {c : Code} {b L : Nat} {xs : Nat → Int32} (C0 : lw_At p s m meth c b L xs) {dC : Nat → ClassId} {dI : Nat → Nat → Nat} {cA : ClassId} (hK : va_K (dC, dI) vwCl [(cA, .int)] s) (hN : ix_NW s) {Q : State → Prop} {wx : va_W} {a1 : Nat} {H : Heap} {locs : List Loc} {ls : Array Slot} (hl : lv_has ls 4 [(1, .ref a1), (0, .ref b)]) (hP : va_P (dC, dI) vwCl wx H) (hD : va_D (fun q : Nat => s.heap.size ≤ q) wx) (hS : va_S (fun q : Nat => s.heap.size ≤ q) s.heap H locs) (kk : ∀ (ad2 : Nat → Nat) (H : Heap) (locs : List Loc) (ls : Array Slot), lv_has ls 4 [(3, .int 0), (2, .ref (ad2 0)), (1, .ref a1), (0, .ref b)] → va_P (dC, dI) vwCl (wx ++ ix_mw ad2 cA mw0) H → va_D (fun q : Nat => s.heap.size ≤ q) (wx ++ ix_mw ad2 cA mw0) → va_S (fun q : Nat => s.heap.size ≤ q) s.heap H locs → W p l e room_1 s m #[Value.ref b] below meth c H locs 25 1254 Q (F0 m 18 ls [])) : W p l e room_1 s m #[Value.ref b] below meth c H locs 16 757 Q (F0 m 8 ls []) := by
  obtain ⟨hx, hb, hr, hml, hown, hts, hX, hbl, hlocks, hgv⟩ := id C0
  have hb : c.code = cL_law := hb
  have hgw : ∀ w ∈ ix_gw, w.before #[Value.ref b] s = true := fun w hw => hts w (List.mem_filter.mp hw).1
  have hA : ∀ q : Nat, s.heap.size ≤ q → (fun q : Nat => s.heap.size ≤ q) q := fun _ h => h
  refine va_new (ci := 5) (fs := [.int 0, .int 0, .null, .int 0, .null, .null, .int 0, .null, .int 0, .int 0, .int 0, .null, .null, .null, .null]) (C := RX5) (T := TX5) (N := 15) hx hb hgw ix_uw5 tyX5 tyX5_ok hown (hgw (.classLink RL 10 RX5) (ix_wd_in (j := 527) (by decide +kernel))) (hgw (.instantiable RX5 15) (ix_wd_in (j := 528) (by decide +kernel))) (hgw (.initialized RX5) (ix_wd_in (j := 41) (by decide +kernel))) hK hP hD hS hA rfl (by decide +kernel) (Nat.le_of_ble_eq_true rfl) (Nat.le_of_ble_eq_true rfl) dL_law_8 (fun q5 H hP hD hS => ?_)
  refine W.widen (k := 17) (n := 772) (Nat.le_of_ble_eq_true rfl) (Nat.le_of_ble_eq_true rfl) ?_
  refine lv_dup hx hb dL_law_11 rfl ?_
  have hPc : va_P (dC, dI) vwCl [(q5, .inr (5, [.int 0, .int 0, .null, .int 0, .null, .null, .int 0, .null, .int 0, .int 0, .int 0, .null, .null, .null, .null]))] H := fun k q hk => hP _ q (at_right hk)
  have hDc := D_right hD
  have hFc : ∀ q, va_A [(q5, .inr (5, [.int 0, .int 0, .null, .int 0, .null, .null, .int 0, .null, .int 0, .int 0, .int 0, .null, .null, .null, .null]))] H.size q → (fun q : Nat => s.heap.size ≤ q) q := by
    intro q hq
    rcases hq with ⟨k1, e1, hq⟩ | hq
    · exact hDc.2 k1 _ hq
    · exact Nat.le_trans hS.1 hq
  refine va_callv (va_runI (As := []) (rest := [.ref q5]) ⟨hx, hb, hml, hown, hgw⟩ (n_X5 l dC dI cA q5 H.size) (cwI 0 hgw (n_good (ix_wd_in (j := 531) (by decide +kernel))) rfl rfl rfl (hgw (.initialized RX5) (ix_wd_in (j := 41) (by decide +kernel))) (hgw (.methodLink RL 12 yX5_init) (ix_wd_in (j := 529) (by decide +kernel))) (hgw (.instanceMethod yX5_init) (ix_wd_in (j := 530) (by decide +kernel))) rfl (by decide +kernel) ⟨Nat.le_of_ble_eq_true rfl, Nat.le_of_ble_eq_true rfl⟩) ⟨fun a U g mk q => by obtain ⟨q0, q1, qP, qK, qD⟩ := q; exact ⟨q0, q1, qP, va_K.moved (u := U) (U := U.calling g mk a) (Vm.Alike.refl U.vm) qK, qD⟩, fun U hU hW => ⟨rfl, by rw [hU], by rw [hU]; exact hPc, va_K.moved hW.alike hK, hDc.weaken (fun _ _ _ _ => trivial)⟩⟩ rfl rfl hl.1 rfl (lv_room (Nat.le_of_ble_eq_true rfl)) dL_law_12 ⟨Nat.le_of_ble_eq_true rfl, Nat.le_of_ble_eq_true rfl⟩) hS (fun q _ h => hFc q h) hFc (fun ad2 t H1 locs ht hvm had2 hB hz1 hk1 hS => ?_)
  obtain ⟨hP1, hK1, hD1⟩ := hB
  rw [ht] at hP1
  obtain ⟨hP, hD⟩ := join3 hP hD hk1 hFc hP1 hD1
  refine W.widen (k := 25) (n := 1254) (Nat.le_of_ble_eq_true rfl) (Nat.le_of_ble_eq_true rfl) ?_
  refine lv_astore_n (lv' := [(2, .ref q5), (1, .ref a1), (0, .ref b)]) hx hb dL_law_15 rfl hl (by decide) rfl (fun ls hl => ?_)
  refine lv_iconst (v := 0) hx hb dL_law_16 (by decide) ?_
  refine lv_istore_n (lv' := [(3, .int 0), (2, .ref q5), (1, .ref a1), (0, .ref b)]) hx hb dL_law_17 rfl hl (by decide) rfl (fun ls hl => ?_)
  rw [← had2] at hl
  exact kk ad2 H1 locs ls hl hP hD hS
set_option maxHeartbeats 4000000 in
set_option maxRecDepth 100000 in
theorem whole_start {p : Program} {e : Env} {s : State} {m : MethodId} {below : List Frame} {meth : Method} {c : Code} (l : Launch) {b L : Nat} {xs : Nat → Int32} (hL : L ≤ 3072) (C0 : lw_At p s m meth c b L xs) : W p l e room_1 s m #[Value.ref b] below meth c s.heap [] 0 0 (lw_Z below #[Value.ref b] s) (entryFrame m ([Value.ref b] : List Value).toArray 4) := by
  obtain ⟨hx, hb, hr, hml, hown, hts, hX, hbl, hlocks, hgv⟩ := id C0
  have hgw : ∀ w ∈ ix_gw, w.before #[Value.ref b] s = true := fun w hw => hts w (List.mem_filter.mp hw).1
  have hN : ix_NW s := fun w hw hi => va_tabs (by cases w <;> first | rfl | (simp [ix_isN] at hi; done)) rfl (hts w hw)
  obtain ⟨c0, iS0, hKn0⟩ := u_known (C := RX0) (T := TX0) (N := 8) (n := 8) hgw ix_uw0 (hgw (.instantiable RX0 8) (ix_wd_in (j := 102) (by decide +kernel)))
  obtain ⟨c1, iS1, hKn1⟩ := u_known (C := RX1) (T := TX1) (N := 2) (n := 2) hgw ix_uw1 (hgw (.instantiable RX1 2) (ix_wd_in (j := 89) (by decide +kernel)))
  obtain ⟨c2, iS2, hKn2⟩ := u_known (C := RX2) (T := TX2) (N := 3) (n := 3) hgw ix_uw2 (hgw (.instantiable RX2 3) (ix_wd_in (j := 73) (by decide +kernel)))
  obtain ⟨c3, iS3, hKn3⟩ := u_known (C := RX3) (T := TX3) (N := 4) (n := 4) hgw ix_uw3 (hgw (.instantiable RX3 4) (ix_wd_in (j := 53) (by decide +kernel)))
  obtain ⟨c4, iS4, hKn4⟩ := u_known (C := RX4) (T := TX4) (N := 6) (n := 6) hgw ix_uw4 (hgw (.instantiable RX4 6) (ix_wd_in (j := 45) (by decide +kernel)))
  obtain ⟨c5, iS5, hKn5⟩ := u_known (C := RX5) (T := TX5) (N := 15) (n := 15) hgw ix_uw5 (hgw (.instantiable RX5 15) (ix_wd_in (j := 528) (by decide +kernel)))
  obtain ⟨dC, dI, hKc⟩ : ∃ (dC : Nat → ClassId) (dI : Nat → Nat → Nat), ∀ (k : Nat) (q : vw_C), vwCl[k]? = some q → u_Kn s q.1 q.2.1 q.2.2 (dC k) (dI k) := by
    refine ⟨fun k => if k = 0 then c0 else if k = 1 then c1 else if k = 2 then c2 else if k = 3 then c3 else if k = 4 then c4 else c5, fun k => if k = 0 then iS0 else if k = 1 then iS1 else if k = 2 then iS2 else if k = 3 then iS3 else if k = 4 then iS4 else iS5, ?_⟩
    intro k q hq
    match k, hq with
    | 0, hq => cases hq; exact hKn0
    | 1, hq => cases hq; exact hKn1
    | 2, hq => cases hq; exact hKn2
    | 3, hq => cases hq; exact hKn3
    | 4, hq => cases hq; exact hKn4
    | 5, hq => cases hq; exact hKn5
    | k + 6, hq => simp at hq
  obtain ⟨cA, kA, comp, hf, hk1, hk2⟩ := Cond.arrayClass_spec (hgw (.arrayClass .int) (ix_wd_in (j := 71) (by decide +kernel)))
  have hK : va_K (dC, dI) vwCl [(cA, .int)] s := ⟨hKc, fun k q h => by
    match k, h with
    | 0, h => cases h; exact ⟨fun n z => ⟨fun k h => (by cases h), kA, hk1, comp, hk2⟩, hf⟩
    | k + 1, h => simp at h⟩
  have hl := lv_entry ([.ref b]) (n := 4) (Nat.le_of_ble_eq_true rfl)
  rw [lg_entry_eq]
  generalize (lg_sl ([.ref b]) ++ List.replicate (4 - (lg_sl ([.ref b])).length) Slot.unset).toArray = ls at hl ⊢
  have hl : lv_has ls 4 [(0, .ref b)] := hl
  refine st_A C0 hK hN hl (fun ad1 H locs ls hl hP hD hS => ?_)
  refine st_B C0 hK hN hl hP hD hS (fun ad2 H locs ls hl hP hD hS => ?_)
  exact law_loop C0 hK hN hL (L + 1) 0 (by omega) (by omega) H locs cw0 mw0 ls (lv_sub hl [3, 2, 1, 0] rfl) rel_0 hP hD hS
