set_option maxHeartbeats 4000000 in
set_option maxRecDepth 100000 in
theorem lw_sw {p : Program} {l : Launch} {e : Env} {s : State} {m : MethodId} {below : List Frame} {meth : Method} {c : Code} {b L : Nat} {xs : Nat → Int32} (C0 : lw_At p s m meth c b L xs) {dC : Nat → ClassId} {dI : Nat → Nat → Nat} {cA : ClassId} (hK : va_K (dC, dI) vwCl [(cA, .int)] s) (hN : ix_NW s) {Q : State → Prop} {k : Nat} (hk : 6 * k + 6 ≤ L) (hL : L ≤ 3072) {H : Heap} {locs : List Loc} {ad1 ad2 : Nat → Nat} {wc wm : ix_W} {ls : Array Slot} (hl : lv_has ls 4 [(0, .ref b), (1, .ref (ad1 0)), (2, .ref (ad2 0)), (3, .int (nI (6 * k)))]) (hR : Rel k wc wm) (hP : va_P (dC, dI) vwCl (ix_mw ad1 cA wc ++ ix_mw ad2 cA wm) H) (hD : va_D (fun q : Nat => s.heap.size ≤ q) (ix_mw ad1 cA wc ++ ix_mw ad2 cA wm)) (hS : va_S (fun q : Nat => s.heap.size ≤ q) s.heap H locs)
    (kk : ∀ (H : Heap) (locs : List Loc) (wc wm : ix_W), va_P (dC, dI) vwCl (ix_mw ad1 cA wc ++ ix_mw ad2 cA wm) H → va_D (fun q : Nat => s.heap.size ≤ q) (ix_mw ad1 cA wc ++ ix_mw ad2 cA wm) → va_S (fun q : Nat => s.heap.size ≤ q) s.heap H locs → Rel (k + 1) wc wm → W p l e room_1 s m #[Value.ref b] below meth c H locs 25 1254 Q (F0 m 738 ls [])) : ∀ j : Nat, j < 32 → W p l e room_1 s m #[Value.ref b] below meth c H locs 25 1254 Q (F0 m 33 ls [.int (nI j)])
  | 0, _ => lv_tableIn (off := 103) (tgt := 136) C0.1 C0.2.1 dL_law_33 (by decide) (by decide) (by decide) (by decide) (lc_0 C0 hK hN hk hL hl hR hP hD hS kk)
  | 1, _ => lv_tableIn (off := 126) (tgt := 159) C0.1 C0.2.1 dL_law_33 (by decide) (by decide) (by decide) (by decide) (lc_1 C0 hK hN hk hL hl hR hP hD hS kk)
  | 2, _ => lv_tableIn (off := 169) (tgt := 202) C0.1 C0.2.1 dL_law_33 (by decide) (by decide) (by decide) (by decide) (lc_2 C0 hK hN hk hL hl hR hP hD hS kk)
  | 3, _ => lv_tableIn (off := 202) (tgt := 235) C0.1 C0.2.1 dL_law_33 (by decide) (by decide) (by decide) (by decide) (lc_3 C0 hK hN hk hL hl hR hP hD hS kk)
  | 4, _ => lv_tableIn (off := 225) (tgt := 258) C0.1 C0.2.1 dL_law_33 (by decide) (by decide) (by decide) (by decide) (lc_4 C0 hK hN hk hL hl hR hP hD hS kk)
  | 5, _ => lv_tableIn (off := 258) (tgt := 291) C0.1 C0.2.1 dL_law_33 (by decide) (by decide) (by decide) (by decide) (lc_5 C0 hK hN hk hL hl hR hP hD hS kk)
  | 6, _ => lv_tableIn (off := 271) (tgt := 304) C0.1 C0.2.1 dL_law_33 (by decide) (by decide) (by decide) (by decide) (lc_6 C0 hK hN hk hL hl hR hP hD hS kk)
  | 7, _ => lv_tableIn (off := 294) (tgt := 327) C0.1 C0.2.1 dL_law_33 (by decide) (by decide) (by decide) (by decide) (lc_7 C0 hK hN hk hL hl hR hP hD hS kk)
  | 8, _ => lv_tableIn (off := 317) (tgt := 350) C0.1 C0.2.1 dL_law_33 (by decide) (by decide) (by decide) (by decide) (lc_8 C0 hK hN hk hL hl hR hP hD hS kk)
  | 9, _ => lv_tableIn (off := 350) (tgt := 383) C0.1 C0.2.1 dL_law_33 (by decide) (by decide) (by decide) (by decide) (lc_9 C0 hK hN hk hL hl hR hP hD hS kk)
  | 10, _ => lv_tableIn (off := 363) (tgt := 396) C0.1 C0.2.1 dL_law_33 (by decide) (by decide) (by decide) (by decide) (lc_10 C0 hK hN hk hL hl hR hP hD hS kk)
  | 11, _ => lv_tableIn (off := 386) (tgt := 419) C0.1 C0.2.1 dL_law_33 (by decide) (by decide) (by decide) (by decide) (lc_11 C0 hK hN hk hL hl hR hP hD hS kk)
  | 12, _ => lv_tableIn (off := 399) (tgt := 432) C0.1 C0.2.1 dL_law_33 (by decide) (by decide) (by decide) (by decide) (lc_12 C0 hK hN hk hL hl hR hP hD hS kk)
  | 13, _ => lv_tableIn (off := 448) (tgt := 481) C0.1 C0.2.1 dL_law_33 (by decide) (by decide) (by decide) (by decide) (lc_13 C0 hK hN hk hL hl hR hP hD hS kk)
  | 14, _ => lv_tableIn (off := 481) (tgt := 514) C0.1 C0.2.1 dL_law_33 (by decide) (by decide) (by decide) (by decide) (lc_14 C0 hK hN hk hL hl hR hP hD hS kk)
  | 15, _ => lv_tableIn (off := 494) (tgt := 527) C0.1 C0.2.1 dL_law_33 (by decide) (by decide) (by decide) (by decide) (lc_15 C0 hK hN hk hL hl hR hP hD hS kk)
  | 16, _ => lv_tableIn (off := 537) (tgt := 570) C0.1 C0.2.1 dL_law_33 (by decide) (by decide) (by decide) (by decide) (lc_16 C0 hK hN hk hL hl hR hP hD hS kk)
  | 17, _ => lv_tableIn (off := 550) (tgt := 583) C0.1 C0.2.1 dL_law_33 (by decide) (by decide) (by decide) (by decide) (lc_17 C0 hK hN hk hL hl hR hP hD hS kk)
  | 18, _ => lv_tableIn (off := 573) (tgt := 606) C0.1 C0.2.1 dL_law_33 (by decide) (by decide) (by decide) (by decide) (lc_18 C0 hK hN hk hL hl hR hP hD hS kk)
  | 19, _ => lv_tableIn (off := 596) (tgt := 629) C0.1 C0.2.1 dL_law_33 (by decide) (by decide) (by decide) (by decide) (lc_19 C0 hK hN hk hL hl hR hP hD hS kk)
  | 20, _ => lv_tableIn (off := 619) (tgt := 652) C0.1 C0.2.1 dL_law_33 (by decide) (by decide) (by decide) (by decide) (lc_20 C0 hK hN hk hL hl hR hP hD hS kk)
  | 21, _ => lv_tableIn (off := 682) (tgt := 715) C0.1 C0.2.1 dL_law_33 (by decide) (by decide) (by decide) (by decide) (lc_21 C0 hK hN hk hL hl hR hP hD hS kk)
  | j + 22, hj => lv_tableOut (tgt := 738) C0.1 C0.2.1 dL_law_33 (Or.inr (by rw [nI_toInt (by omega)]; omega)) (by decide) (kk H locs wc wm hP hD hS hR.up)
set_option maxHeartbeats 4000000 in
set_option maxRecDepth 100000 in
theorem law_loop {p : Program} {l : Launch} {e : Env} {s : State} {m : MethodId} {below : List Frame} {meth : Method} {c : Code} {b L : Nat} {xs : Nat → Int32} (C0 : lw_At p s m meth c b L xs) {dC : Nat → ClassId} {dI : Nat → Nat → Nat} {cA : ClassId} (hK : va_K (dC, dI) vwCl [(cA, .int)] s) (hN : ix_NW s) (hL : L ≤ 3072) {ad1 ad2 : Nat → Nat} : ∀ (n k : Nat), L + 1 ≤ 6 * k + n → k ≤ 600 → ∀ (H : Heap) (locs : List Loc) (wc wm : ix_W) (ls : Array Slot), lv_has ls 4 [(0, .ref b), (1, .ref (ad1 0)), (2, .ref (ad2 0)), (3, .int (nI (6 * k)))] → Rel k wc wm → va_P (dC, dI) vwCl (ix_mw ad1 cA wc ++ ix_mw ad2 cA wm) H → va_D (fun q : Nat => s.heap.size ≤ q) (ix_mw ad1 cA wc ++ ix_mw ad2 cA wm) → va_S (fun q : Nat => s.heap.size ≤ q) s.heap H locs → W p l e room_1 s m #[Value.ref b] below meth c H locs 25 1254 (lw_Z below #[Value.ref b] s) (F0 m 18 ls []) := by
  obtain ⟨hx, hb, hr, hml, hown, hts, hX, hbl, hlocks, hgv⟩ := id C0
  have hb : c.code = cL_law := hb
  have hbA : ¬ (fun q : Nat => s.heap.size ≤ q) b := Nat.not_le.mpr hbl
  intro n
  have fin : ∀ (H : Heap) (locs : List Loc) (ls : Array Slot), va_S (fun q : Nat => s.heap.size ≤ q) s.heap H locs → W p l e room_1 s m #[Value.ref b] below meth c H locs 25 1254 (lw_Z below #[Value.ref b] s) (F0 m 744 ls []) := fun H locs ls hS => by
    refine lv_iconst (v := 1) hx hb dL_law_744 (by decide) ?_
    refine va_forget (fun q hq => hS.2.2 q hq) ?_
    exact lw_ret hx hb hr hlocks dL_law_745
  have hd : ∀ k : Nat, k ≤ 600 → (nI L - nI 6 < nI (6 * k) ↔ L < 6 * k + 6) := fun k hk => by
    have e : (nI L - nI 6).toInt = (L : Int) - 6 := pk_sub_toInt (by omega) (by omega)
    rw [fa_lt, e, nI_toInt (by omega)]
    omega
  induction n with
  | zero =>
    intro k h1 hk6 H locs wc wm ls hl hR hP hD hS
    refine lv_iload_n hx hb dL_law_18 rfl (lv_at hl 3 rfl) ?_
    refine lv_aload_n hx hb dL_law_19 rfl (lv_at hl 0 rfl) ?_
    refine va_slen hx hb hX hbl hbA hS dL_law_20 ?_
    refine lv_bipush (v := nI 6) hx hb dL_law_21 (by decide) ?_
    refine lv_isub hx hb dL_law_23 ?_
    refine lv_icmp_gt (tgt := 744) hx hb dL_law_24 (by decide) (fun _ => fin H locs ls hS) (fun h => ?_)
    exact absurd ((hd k hk6).mpr (by omega)) h
  | succ n ih =>
    intro k h1 hk6 H locs wc wm ls hl hR hP hD hS
    refine lv_iload_n hx hb dL_law_18 rfl (lv_at hl 3 rfl) ?_
    refine lv_aload_n hx hb dL_law_19 rfl (lv_at hl 0 rfl) ?_
    refine va_slen hx hb hX hbl hbA hS dL_law_20 ?_
    refine lv_bipush (v := nI 6) hx hb dL_law_21 (by decide) ?_
    refine lv_isub hx hb dL_law_23 ?_
    refine lv_icmp_gt (tgt := 744) hx hb dL_law_24 (by decide) (fun _ => fin H locs ls hS) (fun h => ?_)
    have hk : 6 * k + 6 ≤ L := by
      rcases Nat.lt_or_ge L (6 * k + 6) with z | z
      · exact absurd ((hd k hk6).mpr z) h
      · exact z
    refine lv_aload_n hx hb dL_law_27 rfl (lv_at hl 0 rfl) ?_
    refine lv_iload_n hx hb dL_law_28 rfl (lv_at hl 3 rfl) ?_
    refine va_sld hx hb hX hbl hbA hS (vp_in_nI (by omega) (by omega)) dL_law_29 ?_
    refine lv_bipush (v := 31) hx hb dL_law_30 (by decide) ?_
    refine lv_iand hx hb dL_law_32 ?_
    obtain ⟨j, hj, ej⟩ := pk_andE (xs (nI (6 * k)).toNatClampNeg) (m := 31) 5 (by decide)
    rw [ej]
    refine lw_sw C0 hK hN hk hL hl hR hP hD hS (fun H locs wc wm hP hD hS hR => ?_) j hj
    refine lv_iinc (v := nI (6 * (k + 1))) (lv' := [(3, .int (nI (6 * (k + 1)))), (0, .ref b), (1, .ref (ad1 0)), (2, .ref (ad2 0))]) hx hb dL_law_738 hl (k := 3) rfl (by rw [show Int32.ofInt 6 = nI 6 by decide, nI_add]; rfl) (by decide) rfl (fun ls hl => ?_)
    refine lv_goto (tgt := 18) hx hb dL_law_741 (by decide) ?_
    exact ih (k + 1) (by omega) (by omega) H locs wc wm ls (lv_sub hl [1, 2, 3, 0] rfl) hR hP hD hS
