/-! the law: its twenty-two calls -/
theorem lw_ne {p : Program} {l : Launch} {e : Env} {R : Room} {s : State} {m : MethodId} {args : Array Value} {below : List Frame} {meth : Method} {c : Code} {H : Heap} {locs : List Loc} {cells slots : Nat} {Q : State → Prop} {pc : Nat} {ls : Array Slot} {rest : List Value} {cc : ByteArray} {x : Int32} {o1 o2 : Int} (hx : p.tables.exec = Jvm.exec) (hb : c.code = cc) (d1 : decode cc pc = .ok (.ifCond .eq o1, 3)) (d2 : decode cc (pc + 3) = .ok (.iconst 1, 1)) (d3 : decode cc (pc + 4) = .ok (.goto o2, 3)) (d4 : decode cc (pc + 7) = .ok (.iconst 0, 1)) (h1 : (pc : Int) + o1 = ((pc + 7 : Nat) : Int)) (h2 : ((pc + 4 : Nat) : Int) + o2 = ((pc + 8 : Nat) : Int))
    (kk : W p l e R s m args below meth c H locs cells slots Q (F0 m (pc + 8) ls (.int (if x = 0 then 0 else 1) :: rest))) : W p l e R s m args below meth c H locs cells slots Q (F0 m pc ls (.int x :: rest)) := by
  refine lv_if_eq (tgt := pc + 7) hx hb d1 h1 (fun h => ?_) (fun h => ?_)
  · rw [if_pos h] at kk
    exact lv_iconst (v := 0) hx hb d4 (by decide) kk
  · rw [if_neg h] at kk
    refine lv_iconst (v := 1) hx hb d2 (by decide) ?_
    exact lv_goto (tgt := pc + 8) hx hb d3 h2 kk
set_option maxHeartbeats 4000000 in
set_option maxRecDepth 100000 in
theorem lc_0 {p : Program} {l : Launch} {e : Env} {s : State} {m : MethodId} {below : List Frame} {meth : Method} {c : Code} {b L : Nat} {xs : Nat → Int32} (C0 : lw_At p s m meth c b L xs) {dC : Nat → ClassId} {dI : Nat → Nat → Nat} {cA : ClassId} (hK : va_K (dC, dI) vwCl [(cA, .int)] s) (hN : ix_NW s) {Q : State → Prop} {k : Nat} (hk : 6 * k + 6 ≤ L) (hL : L ≤ 3072) {H : Heap} {locs : List Loc} {ad1 ad2 : Nat → Nat} {wc wm : ix_W} {ls : Array Slot} (hl : lv_has ls 4 [(0, .ref b), (1, .ref (ad1 0)), (2, .ref (ad2 0)), (3, .int (nI (6 * k)))]) (hR : Rel k wc wm) (hP : va_P (dC, dI) vwCl (ix_mw ad1 cA wc ++ ix_mw ad2 cA wm) H) (hD : va_D (fun q : Nat => s.heap.size ≤ q) (ix_mw ad1 cA wc ++ ix_mw ad2 cA wm)) (hS : va_S (fun q : Nat => s.heap.size ≤ q) s.heap H locs)
    (kk : ∀ (H : Heap) (locs : List Loc) (wc wm : ix_W), va_P (dC, dI) vwCl (ix_mw ad1 cA wc ++ ix_mw ad2 cA wm) H → va_D (fun q : Nat => s.heap.size ≤ q) (ix_mw ad1 cA wc ++ ix_mw ad2 cA wm) → va_S (fun q : Nat => s.heap.size ≤ q) s.heap H locs → Rel (k + 1) wc wm → W p l e room_1 s m #[Value.ref b] below meth c H locs 25 1254 Q (F0 m 738 ls [])) : W p l e room_1 s m #[Value.ref b] below meth c H locs 25 1254 Q (F0 m 136 ls []) := by
  obtain ⟨hx, hb, hr, hml, hown, hts, hX, hbl, hlocks, hgv⟩ := id C0
  have hb : c.code = cL_law := hb
  have hbA : ¬ (fun q : Nat => s.heap.size ≤ q) b := Nat.not_le.mpr hbl
  obtain ⟨r, wc1, wm1, h1, h2, hR1⟩ := b_letters hR (ag xs k 1)
  obtain ⟨fs1, hw1⟩ := hR.c0
  obtain ⟨fs2, hw2⟩ := hR.m0
  refine lv_aload_n hx hb dL_law_136 rfl (lv_at hl 1 rfl) ?_
  refine lv_aload_n hx hb dL_law_137 rfl (lv_at hl 0 rfl) ?_
  refine lv_iload_n hx hb dL_law_138 rfl (lv_at hl 3 rfl) ?_
  refine lv_iconst (v := nI 1) hx hb dL_law_139 (by decide) ?_
  refine lv_iadd hx hb dL_law_140 ?_
  refine va_sld hx hb hX hbl hbA hS (ag_in (j := 1) (by omega) hL) dL_law_141 ?_
  refine lw_call C0 hK hN (rest := []) (as := [.inl (ag xs k 1)]) h1 (k := m_X4_letters) (ci := 4) (index := 13) (by decide) rfl (by decide) hw1 rfl (Nat.le_of_ble_eq_true rfl) (ix_wd_in (j := 151) (by decide +kernel)) ⟨(Nat.le_of_ble_eq_true rfl), (Nat.le_of_ble_eq_true rfl)⟩ hl.1 (Nat.le_of_ble_eq_true rfl) dL_law_142 hP hD hS (fun H locs hP hD hS => ?_)
  refine lv_aload_n hx hb dL_law_145 rfl (lv_at hl 2 rfl) ?_
  refine lv_aload_n hx hb dL_law_146 rfl (lv_at hl 0 rfl) ?_
  refine lv_iload_n hx hb dL_law_147 rfl (lv_at hl 3 rfl) ?_
  refine lv_iconst (v := nI 1) hx hb dL_law_148 (by decide) ?_
  refine lv_iadd hx hb dL_law_149 ?_
  refine va_sld hx hb hX hbl hbA hS (ag_in (j := 1) (by omega) hL) dL_law_150 ?_
  refine lw_call C0 hK hN (rest := [.int r]) (as := [.inl (ag xs k 1)]) h2 (k := m_X5_letters) (ci := 5) (index := 17) (by decide) rfl (by decide) hw2 rfl (Nat.le_of_ble_eq_true rfl) (ix_wd_in (j := 579) (by decide +kernel)) ⟨(Nat.le_of_ble_eq_true rfl), (Nat.le_of_ble_eq_true rfl)⟩ hl.1 (Nat.le_of_ble_eq_true rfl) dL_law_151 hP hD hS (fun H locs hP hD hS => ?_)
  refine lv_icmp_eq (tgt := 738) hx hb dL_law_154 (by decide) (fun _ => ?_) (fun hne => absurd rfl hne)
  exact kk H locs wc1 wm1 hP hD hS hR1
set_option maxHeartbeats 4000000 in
set_option maxRecDepth 100000 in
theorem lc_1 {p : Program} {l : Launch} {e : Env} {s : State} {m : MethodId} {below : List Frame} {meth : Method} {c : Code} {b L : Nat} {xs : Nat → Int32} (C0 : lw_At p s m meth c b L xs) {dC : Nat → ClassId} {dI : Nat → Nat → Nat} {cA : ClassId} (hK : va_K (dC, dI) vwCl [(cA, .int)] s) (hN : ix_NW s) {Q : State → Prop} {k : Nat} (hk : 6 * k + 6 ≤ L) (hL : L ≤ 3072) {H : Heap} {locs : List Loc} {ad1 ad2 : Nat → Nat} {wc wm : ix_W} {ls : Array Slot} (hl : lv_has ls 4 [(0, .ref b), (1, .ref (ad1 0)), (2, .ref (ad2 0)), (3, .int (nI (6 * k)))]) (hR : Rel k wc wm) (hP : va_P (dC, dI) vwCl (ix_mw ad1 cA wc ++ ix_mw ad2 cA wm) H) (hD : va_D (fun q : Nat => s.heap.size ≤ q) (ix_mw ad1 cA wc ++ ix_mw ad2 cA wm)) (hS : va_S (fun q : Nat => s.heap.size ≤ q) s.heap H locs)
    (kk : ∀ (H : Heap) (locs : List Loc) (wc wm : ix_W), va_P (dC, dI) vwCl (ix_mw ad1 cA wc ++ ix_mw ad2 cA wm) H → va_D (fun q : Nat => s.heap.size ≤ q) (ix_mw ad1 cA wc ++ ix_mw ad2 cA wm) → va_S (fun q : Nat => s.heap.size ≤ q) s.heap H locs → Rel (k + 1) wc wm → W p l e room_1 s m #[Value.ref b] below meth c H locs 25 1254 Q (F0 m 738 ls [])) : W p l e room_1 s m #[Value.ref b] below meth c H locs 25 1254 Q (F0 m 159 ls []) := by
  obtain ⟨hx, hb, hr, hml, hown, hts, hX, hbl, hlocks, hgv⟩ := id C0
  have hb : c.code = cL_law := hb
  have hbA : ¬ (fun q : Nat => s.heap.size ≤ q) b := Nat.not_le.mpr hbl
  obtain ⟨r, wc1, wm1, h1, h2, hR1⟩ := b_weigh hR (ag xs k 1) (ag xs k 2) (ag xs k 3)
  obtain ⟨fs1, hw1⟩ := hR.c0
  obtain ⟨fs2, hw2⟩ := hR.m0
  refine lv_aload_n hx hb dL_law_159 rfl (lv_at hl 1 rfl) ?_
  refine lv_aload_n hx hb dL_law_160 rfl (lv_at hl 0 rfl) ?_
  refine lv_iload_n hx hb dL_law_161 rfl (lv_at hl 3 rfl) ?_
  refine lv_iconst (v := nI 1) hx hb dL_law_162 (by decide) ?_
  refine lv_iadd hx hb dL_law_163 ?_
  refine va_sld hx hb hX hbl hbA hS (ag_in (j := 1) (by omega) hL) dL_law_164 ?_
  refine lv_aload_n hx hb dL_law_165 rfl (lv_at hl 0 rfl) ?_
  refine lv_iload_n hx hb dL_law_166 rfl (lv_at hl 3 rfl) ?_
  refine lv_iconst (v := nI 2) hx hb dL_law_167 (by decide) ?_
  refine lv_iadd hx hb dL_law_168 ?_
  refine va_sld hx hb hX hbl hbA hS (ag_in (j := 2) (by omega) hL) dL_law_169 ?_
  refine lv_aload_n hx hb dL_law_170 rfl (lv_at hl 0 rfl) ?_
  refine lv_iload_n hx hb dL_law_171 rfl (lv_at hl 3 rfl) ?_
  refine lv_iconst (v := nI 3) hx hb dL_law_172 (by decide) ?_
  refine lv_iadd hx hb dL_law_173 ?_
  refine va_sld hx hb hX hbl hbA hS (ag_in (j := 3) (by omega) hL) dL_law_174 ?_
  refine lw_call C0 hK hN (rest := []) (as := [.inl (ag xs k 1), .inl (ag xs k 2), .inl (ag xs k 3)]) h1 (k := m_X4_weigh) (ci := 4) (index := 18) (by decide) rfl (by decide) hw1 rfl (Nat.le_of_ble_eq_true rfl) (ix_wd_in (j := 170) (by decide +kernel)) ⟨(Nat.le_of_ble_eq_true rfl), (Nat.le_of_ble_eq_true rfl)⟩ hl.1 (Nat.le_of_ble_eq_true rfl) dL_law_175 hP hD hS (fun H locs hP hD hS => ?_)
  refine lv_aload_n hx hb dL_law_178 rfl (lv_at hl 2 rfl) ?_
  refine lv_aload_n hx hb dL_law_179 rfl (lv_at hl 0 rfl) ?_
  refine lv_iload_n hx hb dL_law_180 rfl (lv_at hl 3 rfl) ?_
  refine lv_iconst (v := nI 1) hx hb dL_law_181 (by decide) ?_
  refine lv_iadd hx hb dL_law_182 ?_
  refine va_sld hx hb hX hbl hbA hS (ag_in (j := 1) (by omega) hL) dL_law_183 ?_
  refine lv_aload_n hx hb dL_law_184 rfl (lv_at hl 0 rfl) ?_
  refine lv_iload_n hx hb dL_law_185 rfl (lv_at hl 3 rfl) ?_
  refine lv_iconst (v := nI 2) hx hb dL_law_186 (by decide) ?_
  refine lv_iadd hx hb dL_law_187 ?_
  refine va_sld hx hb hX hbl hbA hS (ag_in (j := 2) (by omega) hL) dL_law_188 ?_
  refine lv_aload_n hx hb dL_law_189 rfl (lv_at hl 0 rfl) ?_
  refine lv_iload_n hx hb dL_law_190 rfl (lv_at hl 3 rfl) ?_
  refine lv_iconst (v := nI 3) hx hb dL_law_191 (by decide) ?_
  refine lv_iadd hx hb dL_law_192 ?_
  refine va_sld hx hb hX hbl hbA hS (ag_in (j := 3) (by omega) hL) dL_law_193 ?_
  refine lw_call C0 hK hN (rest := [.int r]) (as := [.inl (ag xs k 1), .inl (ag xs k 2), .inl (ag xs k 3)]) h2 (k := m_X5_weigh) (ci := 5) (index := 22) (by decide) rfl (by decide) hw2 rfl (Nat.le_of_ble_eq_true rfl) (ix_wd_in (j := 586) (by decide +kernel)) ⟨(Nat.le_of_ble_eq_true rfl), (Nat.le_of_ble_eq_true rfl)⟩ hl.1 (Nat.le_of_ble_eq_true rfl) dL_law_194 hP hD hS (fun H locs hP hD hS => ?_)
  refine lv_icmp_eq (tgt := 738) hx hb dL_law_197 (by decide) (fun _ => ?_) (fun hne => absurd rfl hne)
  exact kk H locs wc1 wm1 hP hD hS hR1
set_option maxHeartbeats 4000000 in
set_option maxRecDepth 100000 in
theorem lc_2 {p : Program} {l : Launch} {e : Env} {s : State} {m : MethodId} {below : List Frame} {meth : Method} {c : Code} {b L : Nat} {xs : Nat → Int32} (C0 : lw_At p s m meth c b L xs) {dC : Nat → ClassId} {dI : Nat → Nat → Nat} {cA : ClassId} (hK : va_K (dC, dI) vwCl [(cA, .int)] s) (hN : ix_NW s) {Q : State → Prop} {k : Nat} (hk : 6 * k + 6 ≤ L) (hL : L ≤ 3072) {H : Heap} {locs : List Loc} {ad1 ad2 : Nat → Nat} {wc wm : ix_W} {ls : Array Slot} (hl : lv_has ls 4 [(0, .ref b), (1, .ref (ad1 0)), (2, .ref (ad2 0)), (3, .int (nI (6 * k)))]) (hR : Rel k wc wm) (hP : va_P (dC, dI) vwCl (ix_mw ad1 cA wc ++ ix_mw ad2 cA wm) H) (hD : va_D (fun q : Nat => s.heap.size ≤ q) (ix_mw ad1 cA wc ++ ix_mw ad2 cA wm)) (hS : va_S (fun q : Nat => s.heap.size ≤ q) s.heap H locs)
    (kk : ∀ (H : Heap) (locs : List Loc) (wc wm : ix_W), va_P (dC, dI) vwCl (ix_mw ad1 cA wc ++ ix_mw ad2 cA wm) H → va_D (fun q : Nat => s.heap.size ≤ q) (ix_mw ad1 cA wc ++ ix_mw ad2 cA wm) → va_S (fun q : Nat => s.heap.size ≤ q) s.heap H locs → Rel (k + 1) wc wm → W p l e room_1 s m #[Value.ref b] below meth c H locs 25 1254 Q (F0 m 738 ls [])) : W p l e room_1 s m #[Value.ref b] below meth c H locs 25 1254 Q (F0 m 202 ls []) := by
  obtain ⟨hx, hb, hr, hml, hown, hts, hX, hbl, hlocks, hgv⟩ := id C0
  have hb : c.code = cL_law := hb
  have hbA : ¬ (fun q : Nat => s.heap.size ≤ q) b := Nat.not_le.mpr hbl
  obtain ⟨r, wc1, wm1, h1, h2, hR1⟩ := b_weight hR (ag xs k 1) (ag xs k 2)
  obtain ⟨fs1, hw1⟩ := hR.c0
  obtain ⟨fs2, hw2⟩ := hR.m0
  refine lv_aload_n hx hb dL_law_202 rfl (lv_at hl 1 rfl) ?_
  refine lv_aload_n hx hb dL_law_203 rfl (lv_at hl 0 rfl) ?_
  refine lv_iload_n hx hb dL_law_204 rfl (lv_at hl 3 rfl) ?_
  refine lv_iconst (v := nI 1) hx hb dL_law_205 (by decide) ?_
  refine lv_iadd hx hb dL_law_206 ?_
  refine va_sld hx hb hX hbl hbA hS (ag_in (j := 1) (by omega) hL) dL_law_207 ?_
  refine lv_aload_n hx hb dL_law_208 rfl (lv_at hl 0 rfl) ?_
  refine lv_iload_n hx hb dL_law_209 rfl (lv_at hl 3 rfl) ?_
  refine lv_iconst (v := nI 2) hx hb dL_law_210 (by decide) ?_
  refine lv_iadd hx hb dL_law_211 ?_
  refine va_sld hx hb hX hbl hbA hS (ag_in (j := 2) (by omega) hL) dL_law_212 ?_
  refine lw_call C0 hK hN (rest := []) (as := [.inl (ag xs k 1), .inl (ag xs k 2)]) h1 (k := m_X4_weight) (ci := 4) (index := 23) (by decide) rfl (by decide) hw1 rfl (Nat.le_of_ble_eq_true rfl) (ix_wd_in (j := 194) (by decide +kernel)) ⟨(Nat.le_of_ble_eq_true rfl), (Nat.le_of_ble_eq_true rfl)⟩ hl.1 (Nat.le_of_ble_eq_true rfl) dL_law_213 hP hD hS (fun H locs hP hD hS => ?_)
  refine lv_aload_n hx hb dL_law_216 rfl (lv_at hl 2 rfl) ?_
  refine lv_aload_n hx hb dL_law_217 rfl (lv_at hl 0 rfl) ?_
  refine lv_iload_n hx hb dL_law_218 rfl (lv_at hl 3 rfl) ?_
  refine lv_iconst (v := nI 1) hx hb dL_law_219 (by decide) ?_
  refine lv_iadd hx hb dL_law_220 ?_
  refine va_sld hx hb hX hbl hbA hS (ag_in (j := 1) (by omega) hL) dL_law_221 ?_
  refine lv_aload_n hx hb dL_law_222 rfl (lv_at hl 0 rfl) ?_
  refine lv_iload_n hx hb dL_law_223 rfl (lv_at hl 3 rfl) ?_
  refine lv_iconst (v := nI 2) hx hb dL_law_224 (by decide) ?_
  refine lv_iadd hx hb dL_law_225 ?_
  refine va_sld hx hb hX hbl hbA hS (ag_in (j := 2) (by omega) hL) dL_law_226 ?_
  refine lw_call C0 hK hN (rest := [.int r]) (as := [.inl (ag xs k 1), .inl (ag xs k 2)]) h2 (k := m_X5_weight) (ci := 5) (index := 27) (by decide) rfl (by decide) hw2 rfl (Nat.le_of_ble_eq_true rfl) (ix_wd_in (j := 599) (by decide +kernel)) ⟨(Nat.le_of_ble_eq_true rfl), (Nat.le_of_ble_eq_true rfl)⟩ hl.1 (Nat.le_of_ble_eq_true rfl) dL_law_227 hP hD hS (fun H locs hP hD hS => ?_)
  refine lv_icmp_eq (tgt := 738) hx hb dL_law_230 (by decide) (fun _ => ?_) (fun hne => absurd rfl hne)
  exact kk H locs wc1 wm1 hP hD hS hR1
set_option maxHeartbeats 4000000 in
set_option maxRecDepth 100000 in
theorem lc_3 {p : Program} {l : Launch} {e : Env} {s : State} {m : MethodId} {below : List Frame} {meth : Method} {c : Code} {b L : Nat} {xs : Nat → Int32} (C0 : lw_At p s m meth c b L xs) {dC : Nat → ClassId} {dI : Nat → Nat → Nat} {cA : ClassId} (hK : va_K (dC, dI) vwCl [(cA, .int)] s) (hN : ix_NW s) {Q : State → Prop} {k : Nat} (hk : 6 * k + 6 ≤ L) (hL : L ≤ 3072) {H : Heap} {locs : List Loc} {ad1 ad2 : Nat → Nat} {wc wm : ix_W} {ls : Array Slot} (hl : lv_has ls 4 [(0, .ref b), (1, .ref (ad1 0)), (2, .ref (ad2 0)), (3, .int (nI (6 * k)))]) (hR : Rel k wc wm) (hP : va_P (dC, dI) vwCl (ix_mw ad1 cA wc ++ ix_mw ad2 cA wm) H) (hD : va_D (fun q : Nat => s.heap.size ≤ q) (ix_mw ad1 cA wc ++ ix_mw ad2 cA wm)) (hS : va_S (fun q : Nat => s.heap.size ≤ q) s.heap H locs)
    (kk : ∀ (H : Heap) (locs : List Loc) (wc wm : ix_W), va_P (dC, dI) vwCl (ix_mw ad1 cA wc ++ ix_mw ad2 cA wm) H → va_D (fun q : Nat => s.heap.size ≤ q) (ix_mw ad1 cA wc ++ ix_mw ad2 cA wm) → va_S (fun q : Nat => s.heap.size ≤ q) s.heap H locs → Rel (k + 1) wc wm → W p l e room_1 s m #[Value.ref b] below meth c H locs 25 1254 Q (F0 m 738 ls [])) : W p l e room_1 s m #[Value.ref b] below meth c H locs 25 1254 Q (F0 m 235 ls []) := by
  obtain ⟨hx, hb, hr, hml, hown, hts, hX, hbl, hlocks, hgv⟩ := id C0
  have hb : c.code = cL_law := hb
  have hbA : ¬ (fun q : Nat => s.heap.size ≤ q) b := Nat.not_le.mpr hbl
  obtain ⟨r, wc1, wm1, h1, h2, hR1⟩ := b_energy hR (ag xs k 1)
  obtain ⟨fs1, hw1⟩ := hR.c0
  obtain ⟨fs2, hw2⟩ := hR.m0
  refine lv_aload_n hx hb dL_law_235 rfl (lv_at hl 1 rfl) ?_
  refine lv_aload_n hx hb dL_law_236 rfl (lv_at hl 0 rfl) ?_
  refine lv_iload_n hx hb dL_law_237 rfl (lv_at hl 3 rfl) ?_
  refine lv_iconst (v := nI 1) hx hb dL_law_238 (by decide) ?_
  refine lv_iadd hx hb dL_law_239 ?_
  refine va_sld hx hb hX hbl hbA hS (ag_in (j := 1) (by omega) hL) dL_law_240 ?_
  refine lw_call C0 hK hN (rest := []) (as := [.inl (ag xs k 1)]) h1 (k := m_X4_energy) (ci := 4) (index := 28) (by decide) rfl (by decide) hw1 rfl (Nat.le_of_ble_eq_true rfl) (ix_wd_in (j := 198) (by decide +kernel)) ⟨(Nat.le_of_ble_eq_true rfl), (Nat.le_of_ble_eq_true rfl)⟩ hl.1 (Nat.le_of_ble_eq_true rfl) dL_law_241 hP hD hS (fun H locs hP hD hS => ?_)
  refine lv_aload_n hx hb dL_law_244 rfl (lv_at hl 2 rfl) ?_
  refine lv_aload_n hx hb dL_law_245 rfl (lv_at hl 0 rfl) ?_
  refine lv_iload_n hx hb dL_law_246 rfl (lv_at hl 3 rfl) ?_
  refine lv_iconst (v := nI 1) hx hb dL_law_247 (by decide) ?_
  refine lv_iadd hx hb dL_law_248 ?_
  refine va_sld hx hb hX hbl hbA hS (ag_in (j := 1) (by omega) hL) dL_law_249 ?_
  refine lw_call C0 hK hN (rest := [.int r]) (as := [.inl (ag xs k 1)]) h2 (k := m_X5_energy) (ci := 5) (index := 31) (by decide) rfl (by decide) hw2 rfl (Nat.le_of_ble_eq_true rfl) (ix_wd_in (j := 603) (by decide +kernel)) ⟨(Nat.le_of_ble_eq_true rfl), (Nat.le_of_ble_eq_true rfl)⟩ hl.1 (Nat.le_of_ble_eq_true rfl) dL_law_250 hP hD hS (fun H locs hP hD hS => ?_)
  refine lv_icmp_eq (tgt := 738) hx hb dL_law_253 (by decide) (fun _ => ?_) (fun hne => absurd rfl hne)
  exact kk H locs wc1 wm1 hP hD hS hR1
set_option maxHeartbeats 4000000 in
set_option maxRecDepth 100000 in
theorem lc_4 {p : Program} {l : Launch} {e : Env} {s : State} {m : MethodId} {below : List Frame} {meth : Method} {c : Code} {b L : Nat} {xs : Nat → Int32} (C0 : lw_At p s m meth c b L xs) {dC : Nat → ClassId} {dI : Nat → Nat → Nat} {cA : ClassId} (hK : va_K (dC, dI) vwCl [(cA, .int)] s) (hN : ix_NW s) {Q : State → Prop} {k : Nat} (hk : 6 * k + 6 ≤ L) (hL : L ≤ 3072) {H : Heap} {locs : List Loc} {ad1 ad2 : Nat → Nat} {wc wm : ix_W} {ls : Array Slot} (hl : lv_has ls 4 [(0, .ref b), (1, .ref (ad1 0)), (2, .ref (ad2 0)), (3, .int (nI (6 * k)))]) (hR : Rel k wc wm) (hP : va_P (dC, dI) vwCl (ix_mw ad1 cA wc ++ ix_mw ad2 cA wm) H) (hD : va_D (fun q : Nat => s.heap.size ≤ q) (ix_mw ad1 cA wc ++ ix_mw ad2 cA wm)) (hS : va_S (fun q : Nat => s.heap.size ≤ q) s.heap H locs)
    (kk : ∀ (H : Heap) (locs : List Loc) (wc wm : ix_W), va_P (dC, dI) vwCl (ix_mw ad1 cA wc ++ ix_mw ad2 cA wm) H → va_D (fun q : Nat => s.heap.size ≤ q) (ix_mw ad1 cA wc ++ ix_mw ad2 cA wm) → va_S (fun q : Nat => s.heap.size ≤ q) s.heap H locs → Rel (k + 1) wc wm → W p l e room_1 s m #[Value.ref b] below meth c H locs 25 1254 Q (F0 m 738 ls [])) : W p l e room_1 s m #[Value.ref b] below meth c H locs 25 1254 Q (F0 m 258 ls []) := by
  obtain ⟨hx, hb, hr, hml, hown, hts, hX, hbl, hlocks, hgv⟩ := id C0
  have hb : c.code = cL_law := hb
  have hbA : ¬ (fun q : Nat => s.heap.size ≤ q) b := Nat.not_le.mpr hbl
  obtain ⟨r, wc1, wm1, h1, h2, hR1⟩ := b_law hR (ag xs k 1) (ag xs k 2)
  obtain ⟨fs1, hw1⟩ := hR.c0
  obtain ⟨fs2, hw2⟩ := hR.m0
  refine lv_aload_n hx hb dL_law_258 rfl (lv_at hl 1 rfl) ?_
  refine lv_aload_n hx hb dL_law_259 rfl (lv_at hl 0 rfl) ?_
  refine lv_iload_n hx hb dL_law_260 rfl (lv_at hl 3 rfl) ?_
  refine lv_iconst (v := nI 1) hx hb dL_law_261 (by decide) ?_
  refine lv_iadd hx hb dL_law_262 ?_
  refine va_sld hx hb hX hbl hbA hS (ag_in (j := 1) (by omega) hL) dL_law_263 ?_
  refine lv_aload_n hx hb dL_law_264 rfl (lv_at hl 0 rfl) ?_
  refine lv_iload_n hx hb dL_law_265 rfl (lv_at hl 3 rfl) ?_
  refine lv_iconst (v := nI 2) hx hb dL_law_266 (by decide) ?_
  refine lv_iadd hx hb dL_law_267 ?_
  refine va_sld hx hb hX hbl hbA hS (ag_in (j := 2) (by omega) hL) dL_law_268 ?_
  refine lw_call C0 hK hN (rest := []) (as := [.inl (ag xs k 1), .inl (ag xs k 2)]) h1 (k := m_X4_law) (ci := 4) (index := 32) (by decide) rfl (by decide) hw1 rfl (Nat.le_of_ble_eq_true rfl) (ix_wd_in (j := 222) (by decide +kernel)) ⟨(Nat.le_of_ble_eq_true rfl), (Nat.le_of_ble_eq_true rfl)⟩ hl.1 (Nat.le_of_ble_eq_true rfl) dL_law_269 hP hD hS (fun H locs hP hD hS => ?_)
  refine lv_aload_n hx hb dL_law_272 rfl (lv_at hl 2 rfl) ?_
  refine lv_aload_n hx hb dL_law_273 rfl (lv_at hl 0 rfl) ?_
  refine lv_iload_n hx hb dL_law_274 rfl (lv_at hl 3 rfl) ?_
  refine lv_iconst (v := nI 1) hx hb dL_law_275 (by decide) ?_
  refine lv_iadd hx hb dL_law_276 ?_
  refine va_sld hx hb hX hbl hbA hS (ag_in (j := 1) (by omega) hL) dL_law_277 ?_
  refine lv_aload_n hx hb dL_law_278 rfl (lv_at hl 0 rfl) ?_
  refine lv_iload_n hx hb dL_law_279 rfl (lv_at hl 3 rfl) ?_
  refine lv_iconst (v := nI 2) hx hb dL_law_280 (by decide) ?_
  refine lv_iadd hx hb dL_law_281 ?_
  refine va_sld hx hb hX hbl hbA hS (ag_in (j := 2) (by omega) hL) dL_law_282 ?_
  refine lw_call C0 hK hN (rest := [.int r]) (as := [.inl (ag xs k 1), .inl (ag xs k 2)]) h2 (k := m_X5_law) (ci := 5) (index := 35) (by decide) rfl (by decide) hw2 rfl (Nat.le_of_ble_eq_true rfl) (ix_wd_in (j := 615) (by decide +kernel)) ⟨(Nat.le_of_ble_eq_true rfl), (Nat.le_of_ble_eq_true rfl)⟩ hl.1 (Nat.le_of_ble_eq_true rfl) dL_law_283 hP hD hS (fun H locs hP hD hS => ?_)
  refine lv_icmp_eq (tgt := 738) hx hb dL_law_286 (by decide) (fun _ => ?_) (fun hne => absurd rfl hne)
  exact kk H locs wc1 wm1 hP hD hS hR1
set_option maxHeartbeats 4000000 in
set_option maxRecDepth 100000 in
theorem lc_5 {p : Program} {l : Launch} {e : Env} {s : State} {m : MethodId} {below : List Frame} {meth : Method} {c : Code} {b L : Nat} {xs : Nat → Int32} (C0 : lw_At p s m meth c b L xs) {dC : Nat → ClassId} {dI : Nat → Nat → Nat} {cA : ClassId} (hK : va_K (dC, dI) vwCl [(cA, .int)] s) (hN : ix_NW s) {Q : State → Prop} {k : Nat} (hk : 6 * k + 6 ≤ L) (hL : L ≤ 3072) {H : Heap} {locs : List Loc} {ad1 ad2 : Nat → Nat} {wc wm : ix_W} {ls : Array Slot} (hl : lv_has ls 4 [(0, .ref b), (1, .ref (ad1 0)), (2, .ref (ad2 0)), (3, .int (nI (6 * k)))]) (hR : Rel k wc wm) (hP : va_P (dC, dI) vwCl (ix_mw ad1 cA wc ++ ix_mw ad2 cA wm) H) (hD : va_D (fun q : Nat => s.heap.size ≤ q) (ix_mw ad1 cA wc ++ ix_mw ad2 cA wm)) (hS : va_S (fun q : Nat => s.heap.size ≤ q) s.heap H locs)
    (kk : ∀ (H : Heap) (locs : List Loc) (wc wm : ix_W), va_P (dC, dI) vwCl (ix_mw ad1 cA wc ++ ix_mw ad2 cA wm) H → va_D (fun q : Nat => s.heap.size ≤ q) (ix_mw ad1 cA wc ++ ix_mw ad2 cA wm) → va_S (fun q : Nat => s.heap.size ≤ q) s.heap H locs → Rel (k + 1) wc wm → W p l e room_1 s m #[Value.ref b] below meth c H locs 25 1254 Q (F0 m 738 ls [])) : W p l e room_1 s m #[Value.ref b] below meth c H locs 25 1254 Q (F0 m 291 ls []) := by
  obtain ⟨hx, hb, hr, hml, hown, hts, hX, hbl, hlocks, hgv⟩ := id C0
  have hb : c.code = cL_law := hb
  have hbA : ¬ (fun q : Nat => s.heap.size ≤ q) b := Nat.not_le.mpr hbl
  obtain ⟨r, wc1, wm1, h1, h2, hR1⟩ := b_unlaw hR 
  obtain ⟨fs1, hw1⟩ := hR.c0
  obtain ⟨fs2, hw2⟩ := hR.m0
  refine lv_aload_n hx hb dL_law_291 rfl (lv_at hl 1 rfl) ?_
  refine lw_call C0 hK hN (rest := []) (as := []) h1 (k := m_X4_unlaw) (ci := 4) (index := 36) (by decide) rfl (by decide) hw1 rfl (Nat.le_of_ble_eq_true rfl) (ix_wd_in (j := 236) (by decide +kernel)) ⟨(Nat.le_of_ble_eq_true rfl), (Nat.le_of_ble_eq_true rfl)⟩ hl.1 (Nat.le_of_ble_eq_true rfl) dL_law_292 hP hD hS (fun H locs hP hD hS => ?_)
  refine lv_aload_n hx hb dL_law_295 rfl (lv_at hl 2 rfl) ?_
  refine lw_call C0 hK hN (rest := [.int r]) (as := []) h2 (k := m_X5_unlaw) (ci := 5) (index := 40) (by decide) rfl (by decide) hw2 rfl (Nat.le_of_ble_eq_true rfl) (ix_wd_in (j := 622) (by decide +kernel)) ⟨(Nat.le_of_ble_eq_true rfl), (Nat.le_of_ble_eq_true rfl)⟩ hl.1 (Nat.le_of_ble_eq_true rfl) dL_law_296 hP hD hS (fun H locs hP hD hS => ?_)
  refine lv_icmp_eq (tgt := 738) hx hb dL_law_299 (by decide) (fun _ => ?_) (fun hne => absurd rfl hne)
  exact kk H locs wc1 wm1 hP hD hS hR1
set_option maxHeartbeats 4000000 in
set_option maxRecDepth 100000 in
theorem lc_6 {p : Program} {l : Launch} {e : Env} {s : State} {m : MethodId} {below : List Frame} {meth : Method} {c : Code} {b L : Nat} {xs : Nat → Int32} (C0 : lw_At p s m meth c b L xs) {dC : Nat → ClassId} {dI : Nat → Nat → Nat} {cA : ClassId} (hK : va_K (dC, dI) vwCl [(cA, .int)] s) (hN : ix_NW s) {Q : State → Prop} {k : Nat} (hk : 6 * k + 6 ≤ L) (hL : L ≤ 3072) {H : Heap} {locs : List Loc} {ad1 ad2 : Nat → Nat} {wc wm : ix_W} {ls : Array Slot} (hl : lv_has ls 4 [(0, .ref b), (1, .ref (ad1 0)), (2, .ref (ad2 0)), (3, .int (nI (6 * k)))]) (hR : Rel k wc wm) (hP : va_P (dC, dI) vwCl (ix_mw ad1 cA wc ++ ix_mw ad2 cA wm) H) (hD : va_D (fun q : Nat => s.heap.size ≤ q) (ix_mw ad1 cA wc ++ ix_mw ad2 cA wm)) (hS : va_S (fun q : Nat => s.heap.size ≤ q) s.heap H locs)
    (kk : ∀ (H : Heap) (locs : List Loc) (wc wm : ix_W), va_P (dC, dI) vwCl (ix_mw ad1 cA wc ++ ix_mw ad2 cA wm) H → va_D (fun q : Nat => s.heap.size ≤ q) (ix_mw ad1 cA wc ++ ix_mw ad2 cA wm) → va_S (fun q : Nat => s.heap.size ≤ q) s.heap H locs → Rel (k + 1) wc wm → W p l e room_1 s m #[Value.ref b] below meth c H locs 25 1254 Q (F0 m 738 ls [])) : W p l e room_1 s m #[Value.ref b] below meth c H locs 25 1254 Q (F0 m 304 ls []) := by
  obtain ⟨hx, hb, hr, hml, hown, hts, hX, hbl, hlocks, hgv⟩ := id C0
  have hb : c.code = cL_law := hb
  have hbA : ¬ (fun q : Nat => s.heap.size ≤ q) b := Nat.not_le.mpr hbl
  obtain ⟨r, wc1, wm1, h1, h2, hR1⟩ := b_best hR (ag xs k 1)
  obtain ⟨fs1, hw1⟩ := hR.c0
  obtain ⟨fs2, hw2⟩ := hR.m0
  refine lv_aload_n hx hb dL_law_304 rfl (lv_at hl 1 rfl) ?_
  refine lv_aload_n hx hb dL_law_305 rfl (lv_at hl 0 rfl) ?_
  refine lv_iload_n hx hb dL_law_306 rfl (lv_at hl 3 rfl) ?_
  refine lv_iconst (v := nI 1) hx hb dL_law_307 (by decide) ?_
  refine lv_iadd hx hb dL_law_308 ?_
  refine va_sld hx hb hX hbl hbA hS (ag_in (j := 1) (by omega) hL) dL_law_309 ?_
  refine lw_call C0 hK hN (rest := []) (as := [.inl (ag xs k 1)]) h1 (k := m_X4_best) (ci := 4) (index := 41) (by decide) rfl (by decide) hw1 rfl (Nat.le_of_ble_eq_true rfl) (ix_wd_in (j := 244) (by decide +kernel)) ⟨(Nat.le_of_ble_eq_true rfl), (Nat.le_of_ble_eq_true rfl)⟩ hl.1 (Nat.le_of_ble_eq_true rfl) dL_law_310 hP hD hS (fun H locs hP hD hS => ?_)
  refine lv_aload_n hx hb dL_law_313 rfl (lv_at hl 2 rfl) ?_
  refine lv_aload_n hx hb dL_law_314 rfl (lv_at hl 0 rfl) ?_
  refine lv_iload_n hx hb dL_law_315 rfl (lv_at hl 3 rfl) ?_
  refine lv_iconst (v := nI 1) hx hb dL_law_316 (by decide) ?_
  refine lv_iadd hx hb dL_law_317 ?_
  refine va_sld hx hb hX hbl hbA hS (ag_in (j := 1) (by omega) hL) dL_law_318 ?_
  refine lw_call C0 hK hN (rest := [.int r]) (as := [.inl (ag xs k 1)]) h2 (k := m_X5_best) (ci := 5) (index := 44) (by decide) rfl (by decide) hw2 rfl (Nat.le_of_ble_eq_true rfl) (ix_wd_in (j := 626) (by decide +kernel)) ⟨(Nat.le_of_ble_eq_true rfl), (Nat.le_of_ble_eq_true rfl)⟩ hl.1 (Nat.le_of_ble_eq_true rfl) dL_law_319 hP hD hS (fun H locs hP hD hS => ?_)
  refine lv_icmp_eq (tgt := 738) hx hb dL_law_322 (by decide) (fun _ => ?_) (fun hne => absurd rfl hne)
  exact kk H locs wc1 wm1 hP hD hS hR1
set_option maxHeartbeats 4000000 in
set_option maxRecDepth 100000 in
theorem lc_7 {p : Program} {l : Launch} {e : Env} {s : State} {m : MethodId} {below : List Frame} {meth : Method} {c : Code} {b L : Nat} {xs : Nat → Int32} (C0 : lw_At p s m meth c b L xs) {dC : Nat → ClassId} {dI : Nat → Nat → Nat} {cA : ClassId} (hK : va_K (dC, dI) vwCl [(cA, .int)] s) (hN : ix_NW s) {Q : State → Prop} {k : Nat} (hk : 6 * k + 6 ≤ L) (hL : L ≤ 3072) {H : Heap} {locs : List Loc} {ad1 ad2 : Nat → Nat} {wc wm : ix_W} {ls : Array Slot} (hl : lv_has ls 4 [(0, .ref b), (1, .ref (ad1 0)), (2, .ref (ad2 0)), (3, .int (nI (6 * k)))]) (hR : Rel k wc wm) (hP : va_P (dC, dI) vwCl (ix_mw ad1 cA wc ++ ix_mw ad2 cA wm) H) (hD : va_D (fun q : Nat => s.heap.size ≤ q) (ix_mw ad1 cA wc ++ ix_mw ad2 cA wm)) (hS : va_S (fun q : Nat => s.heap.size ≤ q) s.heap H locs)
    (kk : ∀ (H : Heap) (locs : List Loc) (wc wm : ix_W), va_P (dC, dI) vwCl (ix_mw ad1 cA wc ++ ix_mw ad2 cA wm) H → va_D (fun q : Nat => s.heap.size ≤ q) (ix_mw ad1 cA wc ++ ix_mw ad2 cA wm) → va_S (fun q : Nat => s.heap.size ≤ q) s.heap H locs → Rel (k + 1) wc wm → W p l e room_1 s m #[Value.ref b] below meth c H locs 25 1254 Q (F0 m 738 ls [])) : W p l e room_1 s m #[Value.ref b] below meth c H locs 25 1254 Q (F0 m 327 ls []) := by
  obtain ⟨hx, hb, hr, hml, hown, hts, hX, hbl, hlocks, hgv⟩ := id C0
  have hb : c.code = cL_law := hb
  have hbA : ¬ (fun q : Nat => s.heap.size ≤ q) b := Nat.not_le.mpr hbl
  obtain ⟨r, wc1, wm1, h1, h2, hR1⟩ := b_many hR (ag xs k 1)
  obtain ⟨fs1, hw1⟩ := hR.c0
  obtain ⟨fs2, hw2⟩ := hR.m0
  refine lv_aload_n hx hb dL_law_327 rfl (lv_at hl 1 rfl) ?_
  refine lv_aload_n hx hb dL_law_328 rfl (lv_at hl 0 rfl) ?_
  refine lv_iload_n hx hb dL_law_329 rfl (lv_at hl 3 rfl) ?_
  refine lv_iconst (v := nI 1) hx hb dL_law_330 (by decide) ?_
  refine lv_iadd hx hb dL_law_331 ?_
  refine va_sld hx hb hX hbl hbA hS (ag_in (j := 1) (by omega) hL) dL_law_332 ?_
  refine lw_call C0 hK hN (rest := []) (as := [.inl (ag xs k 1)]) h1 (k := m_X4_many) (ci := 4) (index := 45) (by decide) rfl (by decide) hw1 rfl (Nat.le_of_ble_eq_true rfl) (ix_wd_in (j := 276) (by decide +kernel)) ⟨(Nat.le_of_ble_eq_true rfl), (Nat.le_of_ble_eq_true rfl)⟩ hl.1 (Nat.le_of_ble_eq_true rfl) dL_law_333 hP hD hS (fun H locs hP hD hS => ?_)
  refine lv_aload_n hx hb dL_law_336 rfl (lv_at hl 2 rfl) ?_
  refine lv_aload_n hx hb dL_law_337 rfl (lv_at hl 0 rfl) ?_
  refine lv_iload_n hx hb dL_law_338 rfl (lv_at hl 3 rfl) ?_
  refine lv_iconst (v := nI 1) hx hb dL_law_339 (by decide) ?_
  refine lv_iadd hx hb dL_law_340 ?_
  refine va_sld hx hb hX hbl hbA hS (ag_in (j := 1) (by omega) hL) dL_law_341 ?_
  refine lw_call C0 hK hN (rest := [.int r]) (as := [.inl (ag xs k 1)]) h2 (k := m_X5_many) (ci := 5) (index := 48) (by decide) rfl (by decide) hw2 rfl (Nat.le_of_ble_eq_true rfl) (ix_wd_in (j := 645) (by decide +kernel)) ⟨(Nat.le_of_ble_eq_true rfl), (Nat.le_of_ble_eq_true rfl)⟩ hl.1 (Nat.le_of_ble_eq_true rfl) dL_law_342 hP hD hS (fun H locs hP hD hS => ?_)
  refine lv_icmp_eq (tgt := 738) hx hb dL_law_345 (by decide) (fun _ => ?_) (fun hne => absurd rfl hne)
  exact kk H locs wc1 wm1 hP hD hS hR1
set_option maxHeartbeats 4000000 in
set_option maxRecDepth 100000 in
theorem lc_8 {p : Program} {l : Launch} {e : Env} {s : State} {m : MethodId} {below : List Frame} {meth : Method} {c : Code} {b L : Nat} {xs : Nat → Int32} (C0 : lw_At p s m meth c b L xs) {dC : Nat → ClassId} {dI : Nat → Nat → Nat} {cA : ClassId} (hK : va_K (dC, dI) vwCl [(cA, .int)] s) (hN : ix_NW s) {Q : State → Prop} {k : Nat} (hk : 6 * k + 6 ≤ L) (hL : L ≤ 3072) {H : Heap} {locs : List Loc} {ad1 ad2 : Nat → Nat} {wc wm : ix_W} {ls : Array Slot} (hl : lv_has ls 4 [(0, .ref b), (1, .ref (ad1 0)), (2, .ref (ad2 0)), (3, .int (nI (6 * k)))]) (hR : Rel k wc wm) (hP : va_P (dC, dI) vwCl (ix_mw ad1 cA wc ++ ix_mw ad2 cA wm) H) (hD : va_D (fun q : Nat => s.heap.size ≤ q) (ix_mw ad1 cA wc ++ ix_mw ad2 cA wm)) (hS : va_S (fun q : Nat => s.heap.size ≤ q) s.heap H locs)
    (kk : ∀ (H : Heap) (locs : List Loc) (wc wm : ix_W), va_P (dC, dI) vwCl (ix_mw ad1 cA wc ++ ix_mw ad2 cA wm) H → va_D (fun q : Nat => s.heap.size ≤ q) (ix_mw ad1 cA wc ++ ix_mw ad2 cA wm) → va_S (fun q : Nat => s.heap.size ≤ q) s.heap H locs → Rel (k + 1) wc wm → W p l e room_1 s m #[Value.ref b] below meth c H locs 25 1254 Q (F0 m 738 ls [])) : W p l e room_1 s m #[Value.ref b] below meth c H locs 25 1254 Q (F0 m 350 ls []) := by
  obtain ⟨hx, hb, hr, hml, hown, hts, hX, hbl, hlocks, hgv⟩ := id C0
  have hb : c.code = cL_law := hb
  have hbA : ¬ (fun q : Nat => s.heap.size ≤ q) b := Nat.not_le.mpr hbl
  obtain ⟨r, wc1, wm1, h1, h2, hR1⟩ := b_bestAt hR (ag xs k 1) (ag xs k 2)
  obtain ⟨fs1, hw1⟩ := hR.c0
  obtain ⟨fs2, hw2⟩ := hR.m0
  refine lv_aload_n hx hb dL_law_350 rfl (lv_at hl 1 rfl) ?_
  refine lv_aload_n hx hb dL_law_351 rfl (lv_at hl 0 rfl) ?_
  refine lv_iload_n hx hb dL_law_352 rfl (lv_at hl 3 rfl) ?_
  refine lv_iconst (v := nI 1) hx hb dL_law_353 (by decide) ?_
  refine lv_iadd hx hb dL_law_354 ?_
  refine va_sld hx hb hX hbl hbA hS (ag_in (j := 1) (by omega) hL) dL_law_355 ?_
  refine lv_aload_n hx hb dL_law_356 rfl (lv_at hl 0 rfl) ?_
  refine lv_iload_n hx hb dL_law_357 rfl (lv_at hl 3 rfl) ?_
  refine lv_iconst (v := nI 2) hx hb dL_law_358 (by decide) ?_
  refine lv_iadd hx hb dL_law_359 ?_
  refine va_sld hx hb hX hbl hbA hS (ag_in (j := 2) (by omega) hL) dL_law_360 ?_
  refine lw_call C0 hK hN (rest := []) (as := [.inl (ag xs k 1), .inl (ag xs k 2)]) h1 (k := m_X4_bestAt) (ci := 4) (index := 49) (by decide) rfl (by decide) hw1 rfl (Nat.le_of_ble_eq_true rfl) (ix_wd_in (j := 284) (by decide +kernel)) ⟨(Nat.le_of_ble_eq_true rfl), (Nat.le_of_ble_eq_true rfl)⟩ hl.1 (Nat.le_of_ble_eq_true rfl) dL_law_361 hP hD hS (fun H locs hP hD hS => ?_)
  refine lv_aload_n hx hb dL_law_364 rfl (lv_at hl 2 rfl) ?_
  refine lv_aload_n hx hb dL_law_365 rfl (lv_at hl 0 rfl) ?_
  refine lv_iload_n hx hb dL_law_366 rfl (lv_at hl 3 rfl) ?_
  refine lv_iconst (v := nI 1) hx hb dL_law_367 (by decide) ?_
  refine lv_iadd hx hb dL_law_368 ?_
  refine va_sld hx hb hX hbl hbA hS (ag_in (j := 1) (by omega) hL) dL_law_369 ?_
  refine lv_aload_n hx hb dL_law_370 rfl (lv_at hl 0 rfl) ?_
  refine lv_iload_n hx hb dL_law_371 rfl (lv_at hl 3 rfl) ?_
  refine lv_iconst (v := nI 2) hx hb dL_law_372 (by decide) ?_
  refine lv_iadd hx hb dL_law_373 ?_
  refine va_sld hx hb hX hbl hbA hS (ag_in (j := 2) (by omega) hL) dL_law_374 ?_
  refine lw_call C0 hK hN (rest := [.int r]) (as := [.inl (ag xs k 1), .inl (ag xs k 2)]) h2 (k := m_X5_bestAt) (ci := 5) (index := 52) (by decide) rfl (by decide) hw2 rfl (Nat.le_of_ble_eq_true rfl) (ix_wd_in (j := 649) (by decide +kernel)) ⟨(Nat.le_of_ble_eq_true rfl), (Nat.le_of_ble_eq_true rfl)⟩ hl.1 (Nat.le_of_ble_eq_true rfl) dL_law_375 hP hD hS (fun H locs hP hD hS => ?_)
  refine lv_icmp_eq (tgt := 738) hx hb dL_law_378 (by decide) (fun _ => ?_) (fun hne => absurd rfl hne)
  exact kk H locs wc1 wm1 hP hD hS hR1
set_option maxHeartbeats 4000000 in
set_option maxRecDepth 100000 in
theorem lc_9 {p : Program} {l : Launch} {e : Env} {s : State} {m : MethodId} {below : List Frame} {meth : Method} {c : Code} {b L : Nat} {xs : Nat → Int32} (C0 : lw_At p s m meth c b L xs) {dC : Nat → ClassId} {dI : Nat → Nat → Nat} {cA : ClassId} (hK : va_K (dC, dI) vwCl [(cA, .int)] s) (hN : ix_NW s) {Q : State → Prop} {k : Nat} (hk : 6 * k + 6 ≤ L) (hL : L ≤ 3072) {H : Heap} {locs : List Loc} {ad1 ad2 : Nat → Nat} {wc wm : ix_W} {ls : Array Slot} (hl : lv_has ls 4 [(0, .ref b), (1, .ref (ad1 0)), (2, .ref (ad2 0)), (3, .int (nI (6 * k)))]) (hR : Rel k wc wm) (hP : va_P (dC, dI) vwCl (ix_mw ad1 cA wc ++ ix_mw ad2 cA wm) H) (hD : va_D (fun q : Nat => s.heap.size ≤ q) (ix_mw ad1 cA wc ++ ix_mw ad2 cA wm)) (hS : va_S (fun q : Nat => s.heap.size ≤ q) s.heap H locs)
    (kk : ∀ (H : Heap) (locs : List Loc) (wc wm : ix_W), va_P (dC, dI) vwCl (ix_mw ad1 cA wc ++ ix_mw ad2 cA wm) H → va_D (fun q : Nat => s.heap.size ≤ q) (ix_mw ad1 cA wc ++ ix_mw ad2 cA wm) → va_S (fun q : Nat => s.heap.size ≤ q) s.heap H locs → Rel (k + 1) wc wm → W p l e room_1 s m #[Value.ref b] below meth c H locs 25 1254 Q (F0 m 738 ls [])) : W p l e room_1 s m #[Value.ref b] below meth c H locs 25 1254 Q (F0 m 383 ls []) := by
  obtain ⟨hx, hb, hr, hml, hown, hts, hX, hbl, hlocks, hgv⟩ := id C0
  have hb : c.code = cL_law := hb
  have hbA : ¬ (fun q : Nat => s.heap.size ≤ q) b := Nat.not_le.mpr hbl
  obtain ⟨r, wc1, wm1, h1, h2, hR1⟩ := b_pull (by omega) hR 
  obtain ⟨fs1, hw1⟩ := hR.c0
  obtain ⟨fs2, hw2⟩ := hR.m0
  refine lv_aload_n hx hb dL_law_383 rfl (lv_at hl 1 rfl) ?_
  refine lw_call C0 hK hN (rest := []) (as := []) h1 (k := m_X4_pull) (ci := 4) (index := 53) (by decide) rfl (by decide) hw1 rfl (Nat.le_of_ble_eq_true rfl) (ix_wd_in (j := 288) (by decide +kernel)) ⟨(Nat.le_of_ble_eq_true rfl), (Nat.le_of_ble_eq_true rfl)⟩ hl.1 (Nat.le_of_ble_eq_true rfl) dL_law_384 hP hD hS (fun H locs hP hD hS => ?_)
  refine lv_aload_n hx hb dL_law_387 rfl (lv_at hl 2 rfl) ?_
  refine lw_call C0 hK hN (rest := [.int r]) (as := []) h2 (k := m_X5_pull) (ci := 5) (index := 56) (by decide) rfl (by decide) hw2 rfl (Nat.le_of_ble_eq_true rfl) (ix_wd_in (j := 653) (by decide +kernel)) ⟨(Nat.le_of_ble_eq_true rfl), (Nat.le_of_ble_eq_true rfl)⟩ hl.1 (Nat.le_of_ble_eq_true rfl) dL_law_388 hP hD hS (fun H locs hP hD hS => ?_)
  refine lv_icmp_eq (tgt := 738) hx hb dL_law_391 (by decide) (fun _ => ?_) (fun hne => absurd rfl hne)
  exact kk H locs wc1 wm1 hP hD hS hR1
set_option maxHeartbeats 4000000 in
set_option maxRecDepth 100000 in
theorem lc_10 {p : Program} {l : Launch} {e : Env} {s : State} {m : MethodId} {below : List Frame} {meth : Method} {c : Code} {b L : Nat} {xs : Nat → Int32} (C0 : lw_At p s m meth c b L xs) {dC : Nat → ClassId} {dI : Nat → Nat → Nat} {cA : ClassId} (hK : va_K (dC, dI) vwCl [(cA, .int)] s) (hN : ix_NW s) {Q : State → Prop} {k : Nat} (hk : 6 * k + 6 ≤ L) (hL : L ≤ 3072) {H : Heap} {locs : List Loc} {ad1 ad2 : Nat → Nat} {wc wm : ix_W} {ls : Array Slot} (hl : lv_has ls 4 [(0, .ref b), (1, .ref (ad1 0)), (2, .ref (ad2 0)), (3, .int (nI (6 * k)))]) (hR : Rel k wc wm) (hP : va_P (dC, dI) vwCl (ix_mw ad1 cA wc ++ ix_mw ad2 cA wm) H) (hD : va_D (fun q : Nat => s.heap.size ≤ q) (ix_mw ad1 cA wc ++ ix_mw ad2 cA wm)) (hS : va_S (fun q : Nat => s.heap.size ≤ q) s.heap H locs)
    (kk : ∀ (H : Heap) (locs : List Loc) (wc wm : ix_W), va_P (dC, dI) vwCl (ix_mw ad1 cA wc ++ ix_mw ad2 cA wm) H → va_D (fun q : Nat => s.heap.size ≤ q) (ix_mw ad1 cA wc ++ ix_mw ad2 cA wm) → va_S (fun q : Nat => s.heap.size ≤ q) s.heap H locs → Rel (k + 1) wc wm → W p l e room_1 s m #[Value.ref b] below meth c H locs 25 1254 Q (F0 m 738 ls [])) : W p l e room_1 s m #[Value.ref b] below meth c H locs 25 1254 Q (F0 m 396 ls []) := by
  obtain ⟨hx, hb, hr, hml, hown, hts, hX, hbl, hlocks, hgv⟩ := id C0
  have hb : c.code = cL_law := hb
  have hbA : ¬ (fun q : Nat => s.heap.size ≤ q) b := Nat.not_le.mpr hbl
  obtain ⟨r, wc1, wm1, h1, h2, hR1⟩ := b_fixed hR (ag xs k 1)
  obtain ⟨fs1, hw1⟩ := hR.c0
  obtain ⟨fs2, hw2⟩ := hR.m0
  refine lv_aload_n hx hb dL_law_396 rfl (lv_at hl 1 rfl) ?_
  refine lv_aload_n hx hb dL_law_397 rfl (lv_at hl 0 rfl) ?_
  refine lv_iload_n hx hb dL_law_398 rfl (lv_at hl 3 rfl) ?_
  refine lv_iconst (v := nI 1) hx hb dL_law_399 (by decide) ?_
  refine lv_iadd hx hb dL_law_400 ?_
  refine va_sld hx hb hX hbl hbA hS (ag_in (j := 1) (by omega) hL) dL_law_401 ?_
  refine lw_call C0 hK hN (rest := []) (as := [.inl (ag xs k 1)]) h1 (k := m_X4_fixed) (ci := 4) (index := 57) (by decide) rfl (by decide) hw1 rfl (Nat.le_of_ble_eq_true rfl) (ix_wd_in (j := 296) (by decide +kernel)) ⟨(Nat.le_of_ble_eq_true rfl), (Nat.le_of_ble_eq_true rfl)⟩ hl.1 (Nat.le_of_ble_eq_true rfl) dL_law_402 hP hD hS (fun H locs hP hD hS => ?_)
  refine lv_aload_n hx hb dL_law_405 rfl (lv_at hl 2 rfl) ?_
  refine lv_aload_n hx hb dL_law_406 rfl (lv_at hl 0 rfl) ?_
  refine lv_iload_n hx hb dL_law_407 rfl (lv_at hl 3 rfl) ?_
  refine lv_iconst (v := nI 1) hx hb dL_law_408 (by decide) ?_
  refine lv_iadd hx hb dL_law_409 ?_
  refine va_sld hx hb hX hbl hbA hS (ag_in (j := 1) (by omega) hL) dL_law_410 ?_
  refine lw_call C0 hK hN (rest := [.int r]) (as := [.inl (ag xs k 1)]) h2 (k := m_X5_fixed) (ci := 5) (index := 60) (by decide) rfl (by decide) hw2 rfl (Nat.le_of_ble_eq_true rfl) (ix_wd_in (j := 657) (by decide +kernel)) ⟨(Nat.le_of_ble_eq_true rfl), (Nat.le_of_ble_eq_true rfl)⟩ hl.1 (Nat.le_of_ble_eq_true rfl) dL_law_411 hP hD hS (fun H locs hP hD hS => ?_)
  refine lv_icmp_eq (tgt := 738) hx hb dL_law_414 (by decide) (fun _ => ?_) (fun hne => absurd rfl hne)
  exact kk H locs wc1 wm1 hP hD hS hR1
set_option maxHeartbeats 4000000 in
set_option maxRecDepth 100000 in
theorem lc_11 {p : Program} {l : Launch} {e : Env} {s : State} {m : MethodId} {below : List Frame} {meth : Method} {c : Code} {b L : Nat} {xs : Nat → Int32} (C0 : lw_At p s m meth c b L xs) {dC : Nat → ClassId} {dI : Nat → Nat → Nat} {cA : ClassId} (hK : va_K (dC, dI) vwCl [(cA, .int)] s) (hN : ix_NW s) {Q : State → Prop} {k : Nat} (hk : 6 * k + 6 ≤ L) (hL : L ≤ 3072) {H : Heap} {locs : List Loc} {ad1 ad2 : Nat → Nat} {wc wm : ix_W} {ls : Array Slot} (hl : lv_has ls 4 [(0, .ref b), (1, .ref (ad1 0)), (2, .ref (ad2 0)), (3, .int (nI (6 * k)))]) (hR : Rel k wc wm) (hP : va_P (dC, dI) vwCl (ix_mw ad1 cA wc ++ ix_mw ad2 cA wm) H) (hD : va_D (fun q : Nat => s.heap.size ≤ q) (ix_mw ad1 cA wc ++ ix_mw ad2 cA wm)) (hS : va_S (fun q : Nat => s.heap.size ≤ q) s.heap H locs)
    (kk : ∀ (H : Heap) (locs : List Loc) (wc wm : ix_W), va_P (dC, dI) vwCl (ix_mw ad1 cA wc ++ ix_mw ad2 cA wm) H → va_D (fun q : Nat => s.heap.size ≤ q) (ix_mw ad1 cA wc ++ ix_mw ad2 cA wm) → va_S (fun q : Nat => s.heap.size ≤ q) s.heap H locs → Rel (k + 1) wc wm → W p l e room_1 s m #[Value.ref b] below meth c H locs 25 1254 Q (F0 m 738 ls [])) : W p l e room_1 s m #[Value.ref b] below meth c H locs 25 1254 Q (F0 m 419 ls []) := by
  obtain ⟨hx, hb, hr, hml, hown, hts, hX, hbl, hlocks, hgv⟩ := id C0
  have hb : c.code = cL_law := hb
  have hbA : ¬ (fun q : Nat => s.heap.size ≤ q) b := Nat.not_le.mpr hbl
  obtain ⟨r, wc1, wm1, h1, h2, hR1⟩ := b_floor hR 
  obtain ⟨fs1, hw1⟩ := hR.c0
  obtain ⟨fs2, hw2⟩ := hR.m0
  refine lv_aload_n hx hb dL_law_419 rfl (lv_at hl 1 rfl) ?_
  refine lw_call C0 hK hN (rest := []) (as := []) h1 (k := m_X4_floor) (ci := 4) (index := 61) (by decide) rfl (by decide) hw1 rfl (Nat.le_of_ble_eq_true rfl) (ix_wd_in (j := 309) (by decide +kernel)) ⟨(Nat.le_of_ble_eq_true rfl), (Nat.le_of_ble_eq_true rfl)⟩ hl.1 (Nat.le_of_ble_eq_true rfl) dL_law_420 hP hD hS (fun H locs hP hD hS => ?_)
  refine lv_aload_n hx hb dL_law_423 rfl (lv_at hl 2 rfl) ?_
  refine lw_call C0 hK hN (rest := [.int r]) (as := []) h2 (k := m_X5_floor) (ci := 5) (index := 64) (by decide) rfl (by decide) hw2 rfl (Nat.le_of_ble_eq_true rfl) (ix_wd_in (j := 669) (by decide +kernel)) ⟨(Nat.le_of_ble_eq_true rfl), (Nat.le_of_ble_eq_true rfl)⟩ hl.1 (Nat.le_of_ble_eq_true rfl) dL_law_424 hP hD hS (fun H locs hP hD hS => ?_)
  refine lv_icmp_eq (tgt := 738) hx hb dL_law_427 (by decide) (fun _ => ?_) (fun hne => absurd rfl hne)
  exact kk H locs wc1 wm1 hP hD hS hR1
set_option maxHeartbeats 4000000 in
set_option maxRecDepth 100000 in
theorem lc_12 {p : Program} {l : Launch} {e : Env} {s : State} {m : MethodId} {below : List Frame} {meth : Method} {c : Code} {b L : Nat} {xs : Nat → Int32} (C0 : lw_At p s m meth c b L xs) {dC : Nat → ClassId} {dI : Nat → Nat → Nat} {cA : ClassId} (hK : va_K (dC, dI) vwCl [(cA, .int)] s) (hN : ix_NW s) {Q : State → Prop} {k : Nat} (hk : 6 * k + 6 ≤ L) (hL : L ≤ 3072) {H : Heap} {locs : List Loc} {ad1 ad2 : Nat → Nat} {wc wm : ix_W} {ls : Array Slot} (hl : lv_has ls 4 [(0, .ref b), (1, .ref (ad1 0)), (2, .ref (ad2 0)), (3, .int (nI (6 * k)))]) (hR : Rel k wc wm) (hP : va_P (dC, dI) vwCl (ix_mw ad1 cA wc ++ ix_mw ad2 cA wm) H) (hD : va_D (fun q : Nat => s.heap.size ≤ q) (ix_mw ad1 cA wc ++ ix_mw ad2 cA wm)) (hS : va_S (fun q : Nat => s.heap.size ≤ q) s.heap H locs)
    (kk : ∀ (H : Heap) (locs : List Loc) (wc wm : ix_W), va_P (dC, dI) vwCl (ix_mw ad1 cA wc ++ ix_mw ad2 cA wm) H → va_D (fun q : Nat => s.heap.size ≤ q) (ix_mw ad1 cA wc ++ ix_mw ad2 cA wm) → va_S (fun q : Nat => s.heap.size ≤ q) s.heap H locs → Rel (k + 1) wc wm → W p l e room_1 s m #[Value.ref b] below meth c H locs 25 1254 Q (F0 m 738 ls [])) : W p l e room_1 s m #[Value.ref b] below meth c H locs 25 1254 Q (F0 m 432 ls []) := by
  obtain ⟨hx, hb, hr, hml, hown, hts, hX, hbl, hlocks, hgv⟩ := id C0
  have hb : c.code = cL_law := hb
  have hbA : ¬ (fun q : Nat => s.heap.size ≤ q) b := Nat.not_le.mpr hbl
  obtain ⟨r, wc1, wm1, h1, h2, hR1⟩ := b_kill hR (ag xs k 1) ((if ag xs k 2 = 0 then 0 else 1))
  obtain ⟨fs1, hw1⟩ := hR.c0
  obtain ⟨fs2, hw2⟩ := hR.m0
  refine lv_aload_n hx hb dL_law_432 rfl (lv_at hl 1 rfl) ?_
  refine lv_aload_n hx hb dL_law_433 rfl (lv_at hl 0 rfl) ?_
  refine lv_iload_n hx hb dL_law_434 rfl (lv_at hl 3 rfl) ?_
  refine lv_iconst (v := nI 1) hx hb dL_law_435 (by decide) ?_
  refine lv_iadd hx hb dL_law_436 ?_
  refine va_sld hx hb hX hbl hbA hS (ag_in (j := 1) (by omega) hL) dL_law_437 ?_
  refine lv_aload_n hx hb dL_law_438 rfl (lv_at hl 0 rfl) ?_
  refine lv_iload_n hx hb dL_law_439 rfl (lv_at hl 3 rfl) ?_
  refine lv_iconst (v := nI 2) hx hb dL_law_440 (by decide) ?_
  refine lv_iadd hx hb dL_law_441 ?_
  refine va_sld hx hb hX hbl hbA hS (ag_in (j := 2) (by omega) hL) dL_law_442 ?_
  refine lw_ne (ls := ls) hx hb dL_law_443 dL_law_446 dL_law_447 dL_law_450 (by decide) (by decide) ?_
  refine W.eq (g2 := F0 m 451 ls (.int (if ag xs k 2 = 0 then 0 else 1) :: .int (ag xs k 1) :: .ref (ad1 0) :: [])) rfl ?_
  refine lw_call C0 hK hN (rest := []) (as := [.inl (ag xs k 1), .inl ((if ag xs k 2 = 0 then 0 else 1))]) h1 (k := m_X4_kill) (ci := 4) (index := 65) (by decide) rfl (by decide) hw1 rfl (Nat.le_of_ble_eq_true rfl) (ix_wd_in (j := 317) (by decide +kernel)) ⟨(Nat.le_of_ble_eq_true rfl), (Nat.le_of_ble_eq_true rfl)⟩ hl.1 (Nat.le_of_ble_eq_true rfl) dL_law_451 hP hD hS (fun H locs hP hD hS => ?_)
  refine lv_aload_n hx hb dL_law_454 rfl (lv_at hl 2 rfl) ?_
  refine lv_aload_n hx hb dL_law_455 rfl (lv_at hl 0 rfl) ?_
  refine lv_iload_n hx hb dL_law_456 rfl (lv_at hl 3 rfl) ?_
  refine lv_iconst (v := nI 1) hx hb dL_law_457 (by decide) ?_
  refine lv_iadd hx hb dL_law_458 ?_
  refine va_sld hx hb hX hbl hbA hS (ag_in (j := 1) (by omega) hL) dL_law_459 ?_
  refine lv_aload_n hx hb dL_law_460 rfl (lv_at hl 0 rfl) ?_
  refine lv_iload_n hx hb dL_law_461 rfl (lv_at hl 3 rfl) ?_
  refine lv_iconst (v := nI 2) hx hb dL_law_462 (by decide) ?_
  refine lv_iadd hx hb dL_law_463 ?_
  refine va_sld hx hb hX hbl hbA hS (ag_in (j := 2) (by omega) hL) dL_law_464 ?_
  refine lw_ne (ls := ls) hx hb dL_law_465 dL_law_468 dL_law_469 dL_law_472 (by decide) (by decide) ?_
  refine W.eq (g2 := F0 m 473 ls (.int (if ag xs k 2 = 0 then 0 else 1) :: .int (ag xs k 1) :: .ref (ad2 0) :: [.int r])) rfl ?_
  refine lw_call C0 hK hN (rest := [.int r]) (as := [.inl (ag xs k 1), .inl ((if ag xs k 2 = 0 then 0 else 1))]) h2 (k := m_X5_kill) (ci := 5) (index := 69) (by decide) rfl (by decide) hw2 rfl (Nat.le_of_ble_eq_true rfl) (ix_wd_in (j := 673) (by decide +kernel)) ⟨(Nat.le_of_ble_eq_true rfl), (Nat.le_of_ble_eq_true rfl)⟩ hl.1 (Nat.le_of_ble_eq_true rfl) dL_law_473 hP hD hS (fun H locs hP hD hS => ?_)
  refine lv_icmp_eq (tgt := 738) hx hb dL_law_476 (by decide) (fun _ => ?_) (fun hne => absurd rfl hne)
  exact kk H locs wc1 wm1 hP hD hS hR1
set_option maxHeartbeats 4000000 in
set_option maxRecDepth 100000 in
theorem lc_13 {p : Program} {l : Launch} {e : Env} {s : State} {m : MethodId} {below : List Frame} {meth : Method} {c : Code} {b L : Nat} {xs : Nat → Int32} (C0 : lw_At p s m meth c b L xs) {dC : Nat → ClassId} {dI : Nat → Nat → Nat} {cA : ClassId} (hK : va_K (dC, dI) vwCl [(cA, .int)] s) (hN : ix_NW s) {Q : State → Prop} {k : Nat} (hk : 6 * k + 6 ≤ L) (hL : L ≤ 3072) {H : Heap} {locs : List Loc} {ad1 ad2 : Nat → Nat} {wc wm : ix_W} {ls : Array Slot} (hl : lv_has ls 4 [(0, .ref b), (1, .ref (ad1 0)), (2, .ref (ad2 0)), (3, .int (nI (6 * k)))]) (hR : Rel k wc wm) (hP : va_P (dC, dI) vwCl (ix_mw ad1 cA wc ++ ix_mw ad2 cA wm) H) (hD : va_D (fun q : Nat => s.heap.size ≤ q) (ix_mw ad1 cA wc ++ ix_mw ad2 cA wm)) (hS : va_S (fun q : Nat => s.heap.size ≤ q) s.heap H locs)
    (kk : ∀ (H : Heap) (locs : List Loc) (wc wm : ix_W), va_P (dC, dI) vwCl (ix_mw ad1 cA wc ++ ix_mw ad2 cA wm) H → va_D (fun q : Nat => s.heap.size ≤ q) (ix_mw ad1 cA wc ++ ix_mw ad2 cA wm) → va_S (fun q : Nat => s.heap.size ≤ q) s.heap H locs → Rel (k + 1) wc wm → W p l e room_1 s m #[Value.ref b] below meth c H locs 25 1254 Q (F0 m 738 ls [])) : W p l e room_1 s m #[Value.ref b] below meth c H locs 25 1254 Q (F0 m 481 ls []) := by
  obtain ⟨hx, hb, hr, hml, hown, hts, hX, hbl, hlocks, hgv⟩ := id C0
  have hb : c.code = cL_law := hb
  have hbA : ¬ (fun q : Nat => s.heap.size ≤ q) b := Nat.not_le.mpr hbl
  obtain ⟨r, wc1, wm1, h1, h2, hR1⟩ := b_chain hR (ag xs k 1) (ag xs k 2)
  obtain ⟨fs1, hw1⟩ := hR.c0
  obtain ⟨fs2, hw2⟩ := hR.m0
  refine lv_aload_n hx hb dL_law_481 rfl (lv_at hl 1 rfl) ?_
  refine lv_aload_n hx hb dL_law_482 rfl (lv_at hl 0 rfl) ?_
  refine lv_iload_n hx hb dL_law_483 rfl (lv_at hl 3 rfl) ?_
  refine lv_iconst (v := nI 1) hx hb dL_law_484 (by decide) ?_
  refine lv_iadd hx hb dL_law_485 ?_
  refine va_sld hx hb hX hbl hbA hS (ag_in (j := 1) (by omega) hL) dL_law_486 ?_
  refine lv_aload_n hx hb dL_law_487 rfl (lv_at hl 0 rfl) ?_
  refine lv_iload_n hx hb dL_law_488 rfl (lv_at hl 3 rfl) ?_
  refine lv_iconst (v := nI 2) hx hb dL_law_489 (by decide) ?_
  refine lv_iadd hx hb dL_law_490 ?_
  refine va_sld hx hb hX hbl hbA hS (ag_in (j := 2) (by omega) hL) dL_law_491 ?_
  refine lw_call C0 hK hN (rest := []) (as := [.inl (ag xs k 1), .inl (ag xs k 2)]) h1 (k := m_X4_chain) (ci := 4) (index := 70) (by decide) rfl (by decide) hw1 rfl (Nat.le_of_ble_eq_true rfl) (ix_wd_in (j := 330) (by decide +kernel)) ⟨(Nat.le_of_ble_eq_true rfl), (Nat.le_of_ble_eq_true rfl)⟩ hl.1 (Nat.le_of_ble_eq_true rfl) dL_law_492 hP hD hS (fun H locs hP hD hS => ?_)
  refine lv_aload_n hx hb dL_law_495 rfl (lv_at hl 2 rfl) ?_
  refine lv_aload_n hx hb dL_law_496 rfl (lv_at hl 0 rfl) ?_
  refine lv_iload_n hx hb dL_law_497 rfl (lv_at hl 3 rfl) ?_
  refine lv_iconst (v := nI 1) hx hb dL_law_498 (by decide) ?_
  refine lv_iadd hx hb dL_law_499 ?_
  refine va_sld hx hb hX hbl hbA hS (ag_in (j := 1) (by omega) hL) dL_law_500 ?_
  refine lv_aload_n hx hb dL_law_501 rfl (lv_at hl 0 rfl) ?_
  refine lv_iload_n hx hb dL_law_502 rfl (lv_at hl 3 rfl) ?_
  refine lv_iconst (v := nI 2) hx hb dL_law_503 (by decide) ?_
  refine lv_iadd hx hb dL_law_504 ?_
  refine va_sld hx hb hX hbl hbA hS (ag_in (j := 2) (by omega) hL) dL_law_505 ?_
  refine lw_call C0 hK hN (rest := [.int r]) (as := [.inl (ag xs k 1), .inl (ag xs k 2)]) h2 (k := m_X5_chain) (ci := 5) (index := 73) (by decide) rfl (by decide) hw2 rfl (Nat.le_of_ble_eq_true rfl) (ix_wd_in (j := 677) (by decide +kernel)) ⟨(Nat.le_of_ble_eq_true rfl), (Nat.le_of_ble_eq_true rfl)⟩ hl.1 (Nat.le_of_ble_eq_true rfl) dL_law_506 hP hD hS (fun H locs hP hD hS => ?_)
  refine lv_icmp_eq (tgt := 738) hx hb dL_law_509 (by decide) (fun _ => ?_) (fun hne => absurd rfl hne)
  exact kk H locs wc1 wm1 hP hD hS hR1
set_option maxHeartbeats 4000000 in
set_option maxRecDepth 100000 in
theorem lc_14 {p : Program} {l : Launch} {e : Env} {s : State} {m : MethodId} {below : List Frame} {meth : Method} {c : Code} {b L : Nat} {xs : Nat → Int32} (C0 : lw_At p s m meth c b L xs) {dC : Nat → ClassId} {dI : Nat → Nat → Nat} {cA : ClassId} (hK : va_K (dC, dI) vwCl [(cA, .int)] s) (hN : ix_NW s) {Q : State → Prop} {k : Nat} (hk : 6 * k + 6 ≤ L) (hL : L ≤ 3072) {H : Heap} {locs : List Loc} {ad1 ad2 : Nat → Nat} {wc wm : ix_W} {ls : Array Slot} (hl : lv_has ls 4 [(0, .ref b), (1, .ref (ad1 0)), (2, .ref (ad2 0)), (3, .int (nI (6 * k)))]) (hR : Rel k wc wm) (hP : va_P (dC, dI) vwCl (ix_mw ad1 cA wc ++ ix_mw ad2 cA wm) H) (hD : va_D (fun q : Nat => s.heap.size ≤ q) (ix_mw ad1 cA wc ++ ix_mw ad2 cA wm)) (hS : va_S (fun q : Nat => s.heap.size ≤ q) s.heap H locs)
    (kk : ∀ (H : Heap) (locs : List Loc) (wc wm : ix_W), va_P (dC, dI) vwCl (ix_mw ad1 cA wc ++ ix_mw ad2 cA wm) H → va_D (fun q : Nat => s.heap.size ≤ q) (ix_mw ad1 cA wc ++ ix_mw ad2 cA wm) → va_S (fun q : Nat => s.heap.size ≤ q) s.heap H locs → Rel (k + 1) wc wm → W p l e room_1 s m #[Value.ref b] below meth c H locs 25 1254 Q (F0 m 738 ls [])) : W p l e room_1 s m #[Value.ref b] below meth c H locs 25 1254 Q (F0 m 514 ls []) := by
  obtain ⟨hx, hb, hr, hml, hown, hts, hX, hbl, hlocks, hgv⟩ := id C0
  have hb : c.code = cL_law := hb
  have hbA : ¬ (fun q : Nat => s.heap.size ≤ q) b := Nat.not_le.mpr hbl
  obtain ⟨r, wc1, wm1, h1, h2, hR1⟩ := b_stands hR 
  obtain ⟨fs1, hw1⟩ := hR.c0
  obtain ⟨fs2, hw2⟩ := hR.m0
  refine lv_aload_n hx hb dL_law_514 rfl (lv_at hl 1 rfl) ?_
  refine lw_call C0 hK hN (rest := []) (as := []) h1 (k := m_X4_stands) (ci := 4) (index := 74) (by decide) rfl (by decide) hw1 rfl (Nat.le_of_ble_eq_true rfl) (ix_wd_in (j := 339) (by decide +kernel)) ⟨(Nat.le_of_ble_eq_true rfl), (Nat.le_of_ble_eq_true rfl)⟩ hl.1 (Nat.le_of_ble_eq_true rfl) dL_law_515 hP hD hS (fun H locs hP hD hS => ?_)
  refine lv_aload_n hx hb dL_law_518 rfl (lv_at hl 2 rfl) ?_
  refine lw_call C0 hK hN (rest := [.int r]) (as := []) h2 (k := m_X5_stands) (ci := 5) (index := 77) (by decide) rfl (by decide) hw2 rfl (Nat.le_of_ble_eq_true rfl) (ix_wd_in (j := 682) (by decide +kernel)) ⟨(Nat.le_of_ble_eq_true rfl), (Nat.le_of_ble_eq_true rfl)⟩ hl.1 (Nat.le_of_ble_eq_true rfl) dL_law_519 hP hD hS (fun H locs hP hD hS => ?_)
  refine lv_icmp_eq (tgt := 738) hx hb dL_law_522 (by decide) (fun _ => ?_) (fun hne => absurd rfl hne)
  exact kk H locs wc1 wm1 hP hD hS hR1
set_option maxHeartbeats 4000000 in
set_option maxRecDepth 100000 in
theorem lc_15 {p : Program} {l : Launch} {e : Env} {s : State} {m : MethodId} {below : List Frame} {meth : Method} {c : Code} {b L : Nat} {xs : Nat → Int32} (C0 : lw_At p s m meth c b L xs) {dC : Nat → ClassId} {dI : Nat → Nat → Nat} {cA : ClassId} (hK : va_K (dC, dI) vwCl [(cA, .int)] s) (hN : ix_NW s) {Q : State → Prop} {k : Nat} (hk : 6 * k + 6 ≤ L) (hL : L ≤ 3072) {H : Heap} {locs : List Loc} {ad1 ad2 : Nat → Nat} {wc wm : ix_W} {ls : Array Slot} (hl : lv_has ls 4 [(0, .ref b), (1, .ref (ad1 0)), (2, .ref (ad2 0)), (3, .int (nI (6 * k)))]) (hR : Rel k wc wm) (hP : va_P (dC, dI) vwCl (ix_mw ad1 cA wc ++ ix_mw ad2 cA wm) H) (hD : va_D (fun q : Nat => s.heap.size ≤ q) (ix_mw ad1 cA wc ++ ix_mw ad2 cA wm)) (hS : va_S (fun q : Nat => s.heap.size ≤ q) s.heap H locs)
    (kk : ∀ (H : Heap) (locs : List Loc) (wc wm : ix_W), va_P (dC, dI) vwCl (ix_mw ad1 cA wc ++ ix_mw ad2 cA wm) H → va_D (fun q : Nat => s.heap.size ≤ q) (ix_mw ad1 cA wc ++ ix_mw ad2 cA wm) → va_S (fun q : Nat => s.heap.size ≤ q) s.heap H locs → Rel (k + 1) wc wm → W p l e room_1 s m #[Value.ref b] below meth c H locs 25 1254 Q (F0 m 738 ls [])) : W p l e room_1 s m #[Value.ref b] below meth c H locs 25 1254 Q (F0 m 527 ls []) := by
  obtain ⟨hx, hb, hr, hml, hown, hts, hX, hbl, hlocks, hgv⟩ := id C0
  have hb : c.code = cL_law := hb
  have hbA : ¬ (fun q : Nat => s.heap.size ≤ q) b := Nat.not_le.mpr hbl
  obtain ⟨r, wc1, wm1, h1, h2, hR1⟩ := b_link hR (ag xs k 1) (ag xs k 2) (ag xs k 3)
  obtain ⟨fs1, hw1⟩ := hR.c0
  obtain ⟨fs2, hw2⟩ := hR.m0
  refine lv_aload_n hx hb dL_law_527 rfl (lv_at hl 1 rfl) ?_
  refine lv_aload_n hx hb dL_law_528 rfl (lv_at hl 0 rfl) ?_
  refine lv_iload_n hx hb dL_law_529 rfl (lv_at hl 3 rfl) ?_
  refine lv_iconst (v := nI 1) hx hb dL_law_530 (by decide) ?_
  refine lv_iadd hx hb dL_law_531 ?_
  refine va_sld hx hb hX hbl hbA hS (ag_in (j := 1) (by omega) hL) dL_law_532 ?_
  refine lv_aload_n hx hb dL_law_533 rfl (lv_at hl 0 rfl) ?_
  refine lv_iload_n hx hb dL_law_534 rfl (lv_at hl 3 rfl) ?_
  refine lv_iconst (v := nI 2) hx hb dL_law_535 (by decide) ?_
  refine lv_iadd hx hb dL_law_536 ?_
  refine va_sld hx hb hX hbl hbA hS (ag_in (j := 2) (by omega) hL) dL_law_537 ?_
  refine lv_aload_n hx hb dL_law_538 rfl (lv_at hl 0 rfl) ?_
  refine lv_iload_n hx hb dL_law_539 rfl (lv_at hl 3 rfl) ?_
  refine lv_iconst (v := nI 3) hx hb dL_law_540 (by decide) ?_
  refine lv_iadd hx hb dL_law_541 ?_
  refine va_sld hx hb hX hbl hbA hS (ag_in (j := 3) (by omega) hL) dL_law_542 ?_
  refine lw_call C0 hK hN (rest := []) (as := [.inl (ag xs k 1), .inl (ag xs k 2), .inl (ag xs k 3)]) h1 (k := m_X4_link) (ci := 4) (index := 78) (by decide) rfl (by decide) hw1 rfl (Nat.le_of_ble_eq_true rfl) (ix_wd_in (j := 382) (by decide +kernel)) ⟨(Nat.le_of_ble_eq_true rfl), (Nat.le_of_ble_eq_true rfl)⟩ hl.1 (Nat.le_of_ble_eq_true rfl) dL_law_543 hP hD hS (fun H locs hP hD hS => ?_)
  refine lv_aload_n hx hb dL_law_546 rfl (lv_at hl 2 rfl) ?_
  refine lv_aload_n hx hb dL_law_547 rfl (lv_at hl 0 rfl) ?_
  refine lv_iload_n hx hb dL_law_548 rfl (lv_at hl 3 rfl) ?_
  refine lv_iconst (v := nI 1) hx hb dL_law_549 (by decide) ?_
  refine lv_iadd hx hb dL_law_550 ?_
  refine va_sld hx hb hX hbl hbA hS (ag_in (j := 1) (by omega) hL) dL_law_551 ?_
  refine lv_aload_n hx hb dL_law_552 rfl (lv_at hl 0 rfl) ?_
  refine lv_iload_n hx hb dL_law_553 rfl (lv_at hl 3 rfl) ?_
  refine lv_iconst (v := nI 2) hx hb dL_law_554 (by decide) ?_
  refine lv_iadd hx hb dL_law_555 ?_
  refine va_sld hx hb hX hbl hbA hS (ag_in (j := 2) (by omega) hL) dL_law_556 ?_
  refine lv_aload_n hx hb dL_law_557 rfl (lv_at hl 0 rfl) ?_
  refine lv_iload_n hx hb dL_law_558 rfl (lv_at hl 3 rfl) ?_
  refine lv_iconst (v := nI 3) hx hb dL_law_559 (by decide) ?_
  refine lv_iadd hx hb dL_law_560 ?_
  refine va_sld hx hb hX hbl hbA hS (ag_in (j := 3) (by omega) hL) dL_law_561 ?_
  refine lw_call C0 hK hN (rest := [.int r]) (as := [.inl (ag xs k 1), .inl (ag xs k 2), .inl (ag xs k 3)]) h2 (k := m_X5_link) (ci := 5) (index := 81) (by decide) rfl (by decide) hw2 rfl (Nat.le_of_ble_eq_true rfl) (ix_wd_in (j := 707) (by decide +kernel)) ⟨(Nat.le_of_ble_eq_true rfl), (Nat.le_of_ble_eq_true rfl)⟩ hl.1 (Nat.le_of_ble_eq_true rfl) dL_law_562 hP hD hS (fun H locs hP hD hS => ?_)
  refine lv_icmp_eq (tgt := 738) hx hb dL_law_565 (by decide) (fun _ => ?_) (fun hne => absurd rfl hne)
  exact kk H locs wc1 wm1 hP hD hS hR1
set_option maxHeartbeats 4000000 in
set_option maxRecDepth 100000 in
theorem lc_16 {p : Program} {l : Launch} {e : Env} {s : State} {m : MethodId} {below : List Frame} {meth : Method} {c : Code} {b L : Nat} {xs : Nat → Int32} (C0 : lw_At p s m meth c b L xs) {dC : Nat → ClassId} {dI : Nat → Nat → Nat} {cA : ClassId} (hK : va_K (dC, dI) vwCl [(cA, .int)] s) (hN : ix_NW s) {Q : State → Prop} {k : Nat} (hk : 6 * k + 6 ≤ L) (hL : L ≤ 3072) {H : Heap} {locs : List Loc} {ad1 ad2 : Nat → Nat} {wc wm : ix_W} {ls : Array Slot} (hl : lv_has ls 4 [(0, .ref b), (1, .ref (ad1 0)), (2, .ref (ad2 0)), (3, .int (nI (6 * k)))]) (hR : Rel k wc wm) (hP : va_P (dC, dI) vwCl (ix_mw ad1 cA wc ++ ix_mw ad2 cA wm) H) (hD : va_D (fun q : Nat => s.heap.size ≤ q) (ix_mw ad1 cA wc ++ ix_mw ad2 cA wm)) (hS : va_S (fun q : Nat => s.heap.size ≤ q) s.heap H locs)
    (kk : ∀ (H : Heap) (locs : List Loc) (wc wm : ix_W), va_P (dC, dI) vwCl (ix_mw ad1 cA wc ++ ix_mw ad2 cA wm) H → va_D (fun q : Nat => s.heap.size ≤ q) (ix_mw ad1 cA wc ++ ix_mw ad2 cA wm) → va_S (fun q : Nat => s.heap.size ≤ q) s.heap H locs → Rel (k + 1) wc wm → W p l e room_1 s m #[Value.ref b] below meth c H locs 25 1254 Q (F0 m 738 ls [])) : W p l e room_1 s m #[Value.ref b] below meth c H locs 25 1254 Q (F0 m 570 ls []) := by
  obtain ⟨hx, hb, hr, hml, hown, hts, hX, hbl, hlocks, hgv⟩ := id C0
  have hb : c.code = cL_law := hb
  have hbA : ¬ (fun q : Nat => s.heap.size ≤ q) b := Nat.not_le.mpr hbl
  obtain ⟨r, wc1, wm1, h1, h2, hR1⟩ := b_strong (by omega) hR 
  obtain ⟨fs1, hw1⟩ := hR.c0
  obtain ⟨fs2, hw2⟩ := hR.m0
  refine lv_aload_n hx hb dL_law_570 rfl (lv_at hl 1 rfl) ?_
  refine lw_call C0 hK hN (rest := []) (as := []) h1 (k := m_X4_strong) (ci := 4) (index := 82) (by decide) rfl (by decide) hw1 rfl (Nat.le_of_ble_eq_true rfl) (ix_wd_in (j := 396) (by decide +kernel)) ⟨(Nat.le_of_ble_eq_true rfl), (Nat.le_of_ble_eq_true rfl)⟩ hl.1 (Nat.le_of_ble_eq_true rfl) dL_law_571 hP hD hS (fun H locs hP hD hS => ?_)
  refine lv_aload_n hx hb dL_law_574 rfl (lv_at hl 2 rfl) ?_
  refine lw_call C0 hK hN (rest := [.int r]) (as := []) h2 (k := m_X5_strong) (ci := 5) (index := 85) (by decide) rfl (by decide) hw2 rfl (Nat.le_of_ble_eq_true rfl) (ix_wd_in (j := 716) (by decide +kernel)) ⟨(Nat.le_of_ble_eq_true rfl), (Nat.le_of_ble_eq_true rfl)⟩ hl.1 (Nat.le_of_ble_eq_true rfl) dL_law_575 hP hD hS (fun H locs hP hD hS => ?_)
  refine lv_icmp_eq (tgt := 738) hx hb dL_law_578 (by decide) (fun _ => ?_) (fun hne => absurd rfl hne)
  exact kk H locs wc1 wm1 hP hD hS hR1
set_option maxHeartbeats 4000000 in
set_option maxRecDepth 100000 in
theorem lc_17 {p : Program} {l : Launch} {e : Env} {s : State} {m : MethodId} {below : List Frame} {meth : Method} {c : Code} {b L : Nat} {xs : Nat → Int32} (C0 : lw_At p s m meth c b L xs) {dC : Nat → ClassId} {dI : Nat → Nat → Nat} {cA : ClassId} (hK : va_K (dC, dI) vwCl [(cA, .int)] s) (hN : ix_NW s) {Q : State → Prop} {k : Nat} (hk : 6 * k + 6 ≤ L) (hL : L ≤ 3072) {H : Heap} {locs : List Loc} {ad1 ad2 : Nat → Nat} {wc wm : ix_W} {ls : Array Slot} (hl : lv_has ls 4 [(0, .ref b), (1, .ref (ad1 0)), (2, .ref (ad2 0)), (3, .int (nI (6 * k)))]) (hR : Rel k wc wm) (hP : va_P (dC, dI) vwCl (ix_mw ad1 cA wc ++ ix_mw ad2 cA wm) H) (hD : va_D (fun q : Nat => s.heap.size ≤ q) (ix_mw ad1 cA wc ++ ix_mw ad2 cA wm)) (hS : va_S (fun q : Nat => s.heap.size ≤ q) s.heap H locs)
    (kk : ∀ (H : Heap) (locs : List Loc) (wc wm : ix_W), va_P (dC, dI) vwCl (ix_mw ad1 cA wc ++ ix_mw ad2 cA wm) H → va_D (fun q : Nat => s.heap.size ≤ q) (ix_mw ad1 cA wc ++ ix_mw ad2 cA wm) → va_S (fun q : Nat => s.heap.size ≤ q) s.heap H locs → Rel (k + 1) wc wm → W p l e room_1 s m #[Value.ref b] below meth c H locs 25 1254 Q (F0 m 738 ls [])) : W p l e room_1 s m #[Value.ref b] below meth c H locs 25 1254 Q (F0 m 583 ls []) := by
  obtain ⟨hx, hb, hr, hml, hown, hts, hX, hbl, hlocks, hgv⟩ := id C0
  have hb : c.code = cL_law := hb
  have hbA : ¬ (fun q : Nat => s.heap.size ≤ q) b := Nat.not_le.mpr hbl
  obtain ⟨r, wc1, wm1, h1, h2, hR1⟩ := b_readBack hR (ag xs k 1)
  obtain ⟨fs1, hw1⟩ := hR.c0
  obtain ⟨fs2, hw2⟩ := hR.m0
  refine lv_aload_n hx hb dL_law_583 rfl (lv_at hl 1 rfl) ?_
  refine lv_aload_n hx hb dL_law_584 rfl (lv_at hl 0 rfl) ?_
  refine lv_iload_n hx hb dL_law_585 rfl (lv_at hl 3 rfl) ?_
  refine lv_iconst (v := nI 1) hx hb dL_law_586 (by decide) ?_
  refine lv_iadd hx hb dL_law_587 ?_
  refine va_sld hx hb hX hbl hbA hS (ag_in (j := 1) (by omega) hL) dL_law_588 ?_
  refine lw_call C0 hK hN (rest := []) (as := [.inl (ag xs k 1)]) h1 (k := m_X4_readBack) (ci := 4) (index := 86) (by decide) rfl (by decide) hw1 rfl (Nat.le_of_ble_eq_true rfl) (ix_wd_in (j := 459) (by decide +kernel)) ⟨(Nat.le_of_ble_eq_true rfl), (Nat.le_of_ble_eq_true rfl)⟩ hl.1 (Nat.le_of_ble_eq_true rfl) dL_law_589 hP hD hS (fun H locs hP hD hS => ?_)
  refine lv_aload_n hx hb dL_law_592 rfl (lv_at hl 2 rfl) ?_
  refine lv_aload_n hx hb dL_law_593 rfl (lv_at hl 0 rfl) ?_
  refine lv_iload_n hx hb dL_law_594 rfl (lv_at hl 3 rfl) ?_
  refine lv_iconst (v := nI 1) hx hb dL_law_595 (by decide) ?_
  refine lv_iadd hx hb dL_law_596 ?_
  refine va_sld hx hb hX hbl hbA hS (ag_in (j := 1) (by omega) hL) dL_law_597 ?_
  refine lw_call C0 hK hN (rest := [.int r]) (as := [.inl (ag xs k 1)]) h2 (k := m_X5_readBack) (ci := 5) (index := 89) (by decide) rfl (by decide) hw2 rfl (Nat.le_of_ble_eq_true rfl) (ix_wd_in (j := 736) (by decide +kernel)) ⟨(Nat.le_of_ble_eq_true rfl), (Nat.le_of_ble_eq_true rfl)⟩ hl.1 (Nat.le_of_ble_eq_true rfl) dL_law_598 hP hD hS (fun H locs hP hD hS => ?_)
  refine lv_icmp_eq (tgt := 738) hx hb dL_law_601 (by decide) (fun _ => ?_) (fun hne => absurd rfl hne)
  exact kk H locs wc1 wm1 hP hD hS hR1
set_option maxHeartbeats 4000000 in
set_option maxRecDepth 100000 in
theorem lc_18 {p : Program} {l : Launch} {e : Env} {s : State} {m : MethodId} {below : List Frame} {meth : Method} {c : Code} {b L : Nat} {xs : Nat → Int32} (C0 : lw_At p s m meth c b L xs) {dC : Nat → ClassId} {dI : Nat → Nat → Nat} {cA : ClassId} (hK : va_K (dC, dI) vwCl [(cA, .int)] s) (hN : ix_NW s) {Q : State → Prop} {k : Nat} (hk : 6 * k + 6 ≤ L) (hL : L ≤ 3072) {H : Heap} {locs : List Loc} {ad1 ad2 : Nat → Nat} {wc wm : ix_W} {ls : Array Slot} (hl : lv_has ls 4 [(0, .ref b), (1, .ref (ad1 0)), (2, .ref (ad2 0)), (3, .int (nI (6 * k)))]) (hR : Rel k wc wm) (hP : va_P (dC, dI) vwCl (ix_mw ad1 cA wc ++ ix_mw ad2 cA wm) H) (hD : va_D (fun q : Nat => s.heap.size ≤ q) (ix_mw ad1 cA wc ++ ix_mw ad2 cA wm)) (hS : va_S (fun q : Nat => s.heap.size ≤ q) s.heap H locs)
    (kk : ∀ (H : Heap) (locs : List Loc) (wc wm : ix_W), va_P (dC, dI) vwCl (ix_mw ad1 cA wc ++ ix_mw ad2 cA wm) H → va_D (fun q : Nat => s.heap.size ≤ q) (ix_mw ad1 cA wc ++ ix_mw ad2 cA wm) → va_S (fun q : Nat => s.heap.size ≤ q) s.heap H locs → Rel (k + 1) wc wm → W p l e room_1 s m #[Value.ref b] below meth c H locs 25 1254 Q (F0 m 738 ls [])) : W p l e room_1 s m #[Value.ref b] below meth c H locs 25 1254 Q (F0 m 606 ls []) := by
  obtain ⟨hx, hb, hr, hml, hown, hts, hX, hbl, hlocks, hgv⟩ := id C0
  have hb : c.code = cL_law := hb
  have hbA : ¬ (fun q : Nat => s.heap.size ≤ q) b := Nat.not_le.mpr hbl
  obtain ⟨r, wc1, wm1, h1, h2, hR1⟩ := b_turn (by omega) hR (ag xs k 1)
  obtain ⟨fs1, hw1⟩ := hR.c0
  obtain ⟨fs2, hw2⟩ := hR.m0
  refine lv_aload_n hx hb dL_law_606 rfl (lv_at hl 1 rfl) ?_
  refine lv_aload_n hx hb dL_law_607 rfl (lv_at hl 0 rfl) ?_
  refine lv_iload_n hx hb dL_law_608 rfl (lv_at hl 3 rfl) ?_
  refine lv_iconst (v := nI 1) hx hb dL_law_609 (by decide) ?_
  refine lv_iadd hx hb dL_law_610 ?_
  refine va_sld hx hb hX hbl hbA hS (ag_in (j := 1) (by omega) hL) dL_law_611 ?_
  refine lw_call C0 hK hN (rest := []) (as := [.inl (ag xs k 1)]) h1 (k := m_X4_turn) (ci := 4) (index := 90) (by decide) rfl (by decide) hw1 rfl (Nat.le_of_ble_eq_true rfl) (ix_wd_in (j := 469) (by decide +kernel)) ⟨(Nat.le_of_ble_eq_true rfl), (Nat.le_of_ble_eq_true rfl)⟩ hl.1 (Nat.le_of_ble_eq_true rfl) dL_law_612 hP hD hS (fun H locs hP hD hS => ?_)
  refine lv_aload_n hx hb dL_law_615 rfl (lv_at hl 2 rfl) ?_
  refine lv_aload_n hx hb dL_law_616 rfl (lv_at hl 0 rfl) ?_
  refine lv_iload_n hx hb dL_law_617 rfl (lv_at hl 3 rfl) ?_
  refine lv_iconst (v := nI 1) hx hb dL_law_618 (by decide) ?_
  refine lv_iadd hx hb dL_law_619 ?_
  refine va_sld hx hb hX hbl hbA hS (ag_in (j := 1) (by omega) hL) dL_law_620 ?_
  refine lw_call C0 hK hN (rest := [.int r]) (as := [.inl (ag xs k 1)]) h2 (k := m_X5_turn) (ci := 5) (index := 93) (by decide) rfl (by decide) hw2 rfl (Nat.le_of_ble_eq_true rfl) (ix_wd_in (j := 740) (by decide +kernel)) ⟨(Nat.le_of_ble_eq_true rfl), (Nat.le_of_ble_eq_true rfl)⟩ hl.1 (Nat.le_of_ble_eq_true rfl) dL_law_621 hP hD hS (fun H locs hP hD hS => ?_)
  refine lv_icmp_eq (tgt := 738) hx hb dL_law_624 (by decide) (fun _ => ?_) (fun hne => absurd rfl hne)
  exact kk H locs wc1 wm1 hP hD hS hR1
set_option maxHeartbeats 4000000 in
set_option maxRecDepth 100000 in
theorem lc_19 {p : Program} {l : Launch} {e : Env} {s : State} {m : MethodId} {below : List Frame} {meth : Method} {c : Code} {b L : Nat} {xs : Nat → Int32} (C0 : lw_At p s m meth c b L xs) {dC : Nat → ClassId} {dI : Nat → Nat → Nat} {cA : ClassId} (hK : va_K (dC, dI) vwCl [(cA, .int)] s) (hN : ix_NW s) {Q : State → Prop} {k : Nat} (hk : 6 * k + 6 ≤ L) (hL : L ≤ 3072) {H : Heap} {locs : List Loc} {ad1 ad2 : Nat → Nat} {wc wm : ix_W} {ls : Array Slot} (hl : lv_has ls 4 [(0, .ref b), (1, .ref (ad1 0)), (2, .ref (ad2 0)), (3, .int (nI (6 * k)))]) (hR : Rel k wc wm) (hP : va_P (dC, dI) vwCl (ix_mw ad1 cA wc ++ ix_mw ad2 cA wm) H) (hD : va_D (fun q : Nat => s.heap.size ≤ q) (ix_mw ad1 cA wc ++ ix_mw ad2 cA wm)) (hS : va_S (fun q : Nat => s.heap.size ≤ q) s.heap H locs)
    (kk : ∀ (H : Heap) (locs : List Loc) (wc wm : ix_W), va_P (dC, dI) vwCl (ix_mw ad1 cA wc ++ ix_mw ad2 cA wm) H → va_D (fun q : Nat => s.heap.size ≤ q) (ix_mw ad1 cA wc ++ ix_mw ad2 cA wm) → va_S (fun q : Nat => s.heap.size ≤ q) s.heap H locs → Rel (k + 1) wc wm → W p l e room_1 s m #[Value.ref b] below meth c H locs 25 1254 Q (F0 m 738 ls [])) : W p l e room_1 s m #[Value.ref b] below meth c H locs 25 1254 Q (F0 m 629 ls []) := by
  obtain ⟨hx, hb, hr, hml, hown, hts, hX, hbl, hlocks, hgv⟩ := id C0
  have hb : c.code = cL_law := hb
  have hbA : ¬ (fun q : Nat => s.heap.size ≤ q) b := Nat.not_le.mpr hbl
  obtain ⟨r, wc1, wm1, h1, h2, hR1⟩ := b_cut (by omega) hR (ag xs k 1)
  obtain ⟨fs1, hw1⟩ := hR.c0
  obtain ⟨fs2, hw2⟩ := hR.m0
  refine lv_aload_n hx hb dL_law_629 rfl (lv_at hl 1 rfl) ?_
  refine lv_aload_n hx hb dL_law_630 rfl (lv_at hl 0 rfl) ?_
  refine lv_iload_n hx hb dL_law_631 rfl (lv_at hl 3 rfl) ?_
  refine lv_iconst (v := nI 1) hx hb dL_law_632 (by decide) ?_
  refine lv_iadd hx hb dL_law_633 ?_
  refine va_sld hx hb hX hbl hbA hS (ag_in (j := 1) (by omega) hL) dL_law_634 ?_
  refine lw_call C0 hK hN (rest := []) (as := [.inl (ag xs k 1)]) h1 (k := m_X4_cut) (ci := 4) (index := 94) (by decide) rfl (by decide) hw1 rfl (Nat.le_of_ble_eq_true rfl) (ix_wd_in (j := 484) (by decide +kernel)) ⟨(Nat.le_of_ble_eq_true rfl), (Nat.le_of_ble_eq_true rfl)⟩ hl.1 (Nat.le_of_ble_eq_true rfl) dL_law_635 hP hD hS (fun H locs hP hD hS => ?_)
  refine lv_aload_n hx hb dL_law_638 rfl (lv_at hl 2 rfl) ?_
  refine lv_aload_n hx hb dL_law_639 rfl (lv_at hl 0 rfl) ?_
  refine lv_iload_n hx hb dL_law_640 rfl (lv_at hl 3 rfl) ?_
  refine lv_iconst (v := nI 1) hx hb dL_law_641 (by decide) ?_
  refine lv_iadd hx hb dL_law_642 ?_
  refine va_sld hx hb hX hbl hbA hS (ag_in (j := 1) (by omega) hL) dL_law_643 ?_
  refine lw_call C0 hK hN (rest := [.int r]) (as := [.inl (ag xs k 1)]) h2 (k := m_X5_cut) (ci := 5) (index := 97) (by decide) rfl (by decide) hw2 rfl (Nat.le_of_ble_eq_true rfl) (ix_wd_in (j := 751) (by decide +kernel)) ⟨(Nat.le_of_ble_eq_true rfl), (Nat.le_of_ble_eq_true rfl)⟩ hl.1 (Nat.le_of_ble_eq_true rfl) dL_law_644 hP hD hS (fun H locs hP hD hS => ?_)
  refine lv_icmp_eq (tgt := 738) hx hb dL_law_647 (by decide) (fun _ => ?_) (fun hne => absurd rfl hne)
  exact kk H locs wc1 wm1 hP hD hS hR1
set_option maxHeartbeats 4000000 in
set_option maxRecDepth 100000 in
theorem lc_20 {p : Program} {l : Launch} {e : Env} {s : State} {m : MethodId} {below : List Frame} {meth : Method} {c : Code} {b L : Nat} {xs : Nat → Int32} (C0 : lw_At p s m meth c b L xs) {dC : Nat → ClassId} {dI : Nat → Nat → Nat} {cA : ClassId} (hK : va_K (dC, dI) vwCl [(cA, .int)] s) (hN : ix_NW s) {Q : State → Prop} {k : Nat} (hk : 6 * k + 6 ≤ L) (hL : L ≤ 3072) {H : Heap} {locs : List Loc} {ad1 ad2 : Nat → Nat} {wc wm : ix_W} {ls : Array Slot} (hl : lv_has ls 4 [(0, .ref b), (1, .ref (ad1 0)), (2, .ref (ad2 0)), (3, .int (nI (6 * k)))]) (hR : Rel k wc wm) (hP : va_P (dC, dI) vwCl (ix_mw ad1 cA wc ++ ix_mw ad2 cA wm) H) (hD : va_D (fun q : Nat => s.heap.size ≤ q) (ix_mw ad1 cA wc ++ ix_mw ad2 cA wm)) (hS : va_S (fun q : Nat => s.heap.size ≤ q) s.heap H locs)
    (kk : ∀ (H : Heap) (locs : List Loc) (wc wm : ix_W), va_P (dC, dI) vwCl (ix_mw ad1 cA wc ++ ix_mw ad2 cA wm) H → va_D (fun q : Nat => s.heap.size ≤ q) (ix_mw ad1 cA wc ++ ix_mw ad2 cA wm) → va_S (fun q : Nat => s.heap.size ≤ q) s.heap H locs → Rel (k + 1) wc wm → W p l e room_1 s m #[Value.ref b] below meth c H locs 25 1254 Q (F0 m 738 ls [])) : W p l e room_1 s m #[Value.ref b] below meth c H locs 25 1254 Q (F0 m 652 ls []) := by
  obtain ⟨hx, hb, hr, hml, hown, hts, hX, hbl, hlocks, hgv⟩ := id C0
  have hb : c.code = cL_law := hb
  have hbA : ¬ (fun q : Nat => s.heap.size ≤ q) b := Nat.not_le.mpr hbl
  obtain ⟨r, wc1, wm1, h1, h2, hR1⟩ := b_walk hR (ag xs k 1) (ag xs k 2) (ag xs k 3) (ag xs k 4) (ag xs k 5)
  obtain ⟨fs1, hw1⟩ := hR.c0
  obtain ⟨fs2, hw2⟩ := hR.m0
  refine lv_aload_n hx hb dL_law_652 rfl (lv_at hl 1 rfl) ?_
  refine lv_aload_n hx hb dL_law_653 rfl (lv_at hl 0 rfl) ?_
  refine lv_iload_n hx hb dL_law_654 rfl (lv_at hl 3 rfl) ?_
  refine lv_iconst (v := nI 1) hx hb dL_law_655 (by decide) ?_
  refine lv_iadd hx hb dL_law_656 ?_
  refine va_sld hx hb hX hbl hbA hS (ag_in (j := 1) (by omega) hL) dL_law_657 ?_
  refine lv_aload_n hx hb dL_law_658 rfl (lv_at hl 0 rfl) ?_
  refine lv_iload_n hx hb dL_law_659 rfl (lv_at hl 3 rfl) ?_
  refine lv_iconst (v := nI 2) hx hb dL_law_660 (by decide) ?_
  refine lv_iadd hx hb dL_law_661 ?_
  refine va_sld hx hb hX hbl hbA hS (ag_in (j := 2) (by omega) hL) dL_law_662 ?_
  refine lv_aload_n hx hb dL_law_663 rfl (lv_at hl 0 rfl) ?_
  refine lv_iload_n hx hb dL_law_664 rfl (lv_at hl 3 rfl) ?_
  refine lv_iconst (v := nI 3) hx hb dL_law_665 (by decide) ?_
  refine lv_iadd hx hb dL_law_666 ?_
  refine va_sld hx hb hX hbl hbA hS (ag_in (j := 3) (by omega) hL) dL_law_667 ?_
  refine lv_aload_n hx hb dL_law_668 rfl (lv_at hl 0 rfl) ?_
  refine lv_iload_n hx hb dL_law_669 rfl (lv_at hl 3 rfl) ?_
  refine lv_iconst (v := nI 4) hx hb dL_law_670 (by decide) ?_
  refine lv_iadd hx hb dL_law_671 ?_
  refine va_sld hx hb hX hbl hbA hS (ag_in (j := 4) (by omega) hL) dL_law_672 ?_
  refine lv_aload_n hx hb dL_law_673 rfl (lv_at hl 0 rfl) ?_
  refine lv_iload_n hx hb dL_law_674 rfl (lv_at hl 3 rfl) ?_
  refine lv_iconst (v := nI 5) hx hb dL_law_675 (by decide) ?_
  refine lv_iadd hx hb dL_law_676 ?_
  refine va_sld hx hb hX hbl hbA hS (ag_in (j := 5) (by omega) hL) dL_law_677 ?_
  refine lw_call C0 hK hN (rest := []) (as := [.inl (ag xs k 1), .inl (ag xs k 2), .inl (ag xs k 3), .inl (ag xs k 4), .inl (ag xs k 5)]) h1 (k := m_X4_walk) (ci := 4) (index := 98) (by decide) rfl (by decide) hw1 rfl (Nat.le_of_ble_eq_true rfl) (ix_wd_in (j := 499) (by decide +kernel)) ⟨(Nat.le_of_ble_eq_true rfl), (Nat.le_of_ble_eq_true rfl)⟩ hl.1 (Nat.le_of_ble_eq_true rfl) dL_law_678 hP hD hS (fun H locs hP hD hS => ?_)
  refine lv_aload_n hx hb dL_law_681 rfl (lv_at hl 2 rfl) ?_
  refine lv_aload_n hx hb dL_law_682 rfl (lv_at hl 0 rfl) ?_
  refine lv_iload_n hx hb dL_law_683 rfl (lv_at hl 3 rfl) ?_
  refine lv_iconst (v := nI 1) hx hb dL_law_684 (by decide) ?_
  refine lv_iadd hx hb dL_law_685 ?_
  refine va_sld hx hb hX hbl hbA hS (ag_in (j := 1) (by omega) hL) dL_law_686 ?_
  refine lv_aload_n hx hb dL_law_687 rfl (lv_at hl 0 rfl) ?_
  refine lv_iload_n hx hb dL_law_688 rfl (lv_at hl 3 rfl) ?_
  refine lv_iconst (v := nI 2) hx hb dL_law_689 (by decide) ?_
  refine lv_iadd hx hb dL_law_690 ?_
  refine va_sld hx hb hX hbl hbA hS (ag_in (j := 2) (by omega) hL) dL_law_691 ?_
  refine lv_aload_n hx hb dL_law_692 rfl (lv_at hl 0 rfl) ?_
  refine lv_iload_n hx hb dL_law_693 rfl (lv_at hl 3 rfl) ?_
  refine lv_iconst (v := nI 3) hx hb dL_law_694 (by decide) ?_
  refine lv_iadd hx hb dL_law_695 ?_
  refine va_sld hx hb hX hbl hbA hS (ag_in (j := 3) (by omega) hL) dL_law_696 ?_
  refine lv_aload_n hx hb dL_law_697 rfl (lv_at hl 0 rfl) ?_
  refine lv_iload_n hx hb dL_law_698 rfl (lv_at hl 3 rfl) ?_
  refine lv_iconst (v := nI 4) hx hb dL_law_699 (by decide) ?_
  refine lv_iadd hx hb dL_law_700 ?_
  refine va_sld hx hb hX hbl hbA hS (ag_in (j := 4) (by omega) hL) dL_law_701 ?_
  refine lv_aload_n hx hb dL_law_702 rfl (lv_at hl 0 rfl) ?_
  refine lv_iload_n hx hb dL_law_703 rfl (lv_at hl 3 rfl) ?_
  refine lv_iconst (v := nI 5) hx hb dL_law_704 (by decide) ?_
  refine lv_iadd hx hb dL_law_705 ?_
  refine va_sld hx hb hX hbl hbA hS (ag_in (j := 5) (by omega) hL) dL_law_706 ?_
  refine lw_call C0 hK hN (rest := [.int r]) (as := [.inl (ag xs k 1), .inl (ag xs k 2), .inl (ag xs k 3), .inl (ag xs k 4), .inl (ag xs k 5)]) h2 (k := m_X5_walk) (ci := 5) (index := 102) (by decide) rfl (by decide) hw2 rfl (Nat.le_of_ble_eq_true rfl) (ix_wd_in (j := 758) (by decide +kernel)) ⟨(Nat.le_of_ble_eq_true rfl), (Nat.le_of_ble_eq_true rfl)⟩ hl.1 (Nat.le_of_ble_eq_true rfl) dL_law_707 hP hD hS (fun H locs hP hD hS => ?_)
  refine lv_icmp_eq (tgt := 738) hx hb dL_law_710 (by decide) (fun _ => ?_) (fun hne => absurd rfl hne)
  exact kk H locs wc1 wm1 hP hD hS hR1
set_option maxHeartbeats 4000000 in
set_option maxRecDepth 100000 in
theorem lc_21 {p : Program} {l : Launch} {e : Env} {s : State} {m : MethodId} {below : List Frame} {meth : Method} {c : Code} {b L : Nat} {xs : Nat → Int32} (C0 : lw_At p s m meth c b L xs) {dC : Nat → ClassId} {dI : Nat → Nat → Nat} {cA : ClassId} (hK : va_K (dC, dI) vwCl [(cA, .int)] s) (hN : ix_NW s) {Q : State → Prop} {k : Nat} (hk : 6 * k + 6 ≤ L) (hL : L ≤ 3072) {H : Heap} {locs : List Loc} {ad1 ad2 : Nat → Nat} {wc wm : ix_W} {ls : Array Slot} (hl : lv_has ls 4 [(0, .ref b), (1, .ref (ad1 0)), (2, .ref (ad2 0)), (3, .int (nI (6 * k)))]) (hR : Rel k wc wm) (hP : va_P (dC, dI) vwCl (ix_mw ad1 cA wc ++ ix_mw ad2 cA wm) H) (hD : va_D (fun q : Nat => s.heap.size ≤ q) (ix_mw ad1 cA wc ++ ix_mw ad2 cA wm)) (hS : va_S (fun q : Nat => s.heap.size ≤ q) s.heap H locs)
    (kk : ∀ (H : Heap) (locs : List Loc) (wc wm : ix_W), va_P (dC, dI) vwCl (ix_mw ad1 cA wc ++ ix_mw ad2 cA wm) H → va_D (fun q : Nat => s.heap.size ≤ q) (ix_mw ad1 cA wc ++ ix_mw ad2 cA wm) → va_S (fun q : Nat => s.heap.size ≤ q) s.heap H locs → Rel (k + 1) wc wm → W p l e room_1 s m #[Value.ref b] below meth c H locs 25 1254 Q (F0 m 738 ls [])) : W p l e room_1 s m #[Value.ref b] below meth c H locs 25 1254 Q (F0 m 715 ls []) := by
  obtain ⟨hx, hb, hr, hml, hown, hts, hX, hbl, hlocks, hgv⟩ := id C0
  have hb : c.code = cL_law := hb
  have hbA : ¬ (fun q : Nat => s.heap.size ≤ q) b := Nat.not_le.mpr hbl
  obtain ⟨r, wc1, wm1, h1, h2, hR1⟩ := b_count hR (ag xs k 1)
  obtain ⟨fs1, hw1⟩ := hR.c0
  obtain ⟨fs2, hw2⟩ := hR.m0
  refine lv_aload_n hx hb dL_law_715 rfl (lv_at hl 1 rfl) ?_
  refine lv_aload_n hx hb dL_law_716 rfl (lv_at hl 0 rfl) ?_
  refine lv_iload_n hx hb dL_law_717 rfl (lv_at hl 3 rfl) ?_
  refine lv_iconst (v := nI 1) hx hb dL_law_718 (by decide) ?_
  refine lv_iadd hx hb dL_law_719 ?_
  refine va_sld hx hb hX hbl hbA hS (ag_in (j := 1) (by omega) hL) dL_law_720 ?_
  refine lw_call C0 hK hN (rest := []) (as := [.inl (ag xs k 1)]) h1 (k := m_X4_count) (ci := 4) (index := 103) (by decide) rfl (by decide) hw1 rfl (Nat.le_of_ble_eq_true rfl) (ix_wd_in (j := 510) (by decide +kernel)) ⟨(Nat.le_of_ble_eq_true rfl), (Nat.le_of_ble_eq_true rfl)⟩ hl.1 (Nat.le_of_ble_eq_true rfl) dL_law_721 hP hD hS (fun H locs hP hD hS => ?_)
  refine lv_aload_n hx hb dL_law_724 rfl (lv_at hl 2 rfl) ?_
  refine lv_aload_n hx hb dL_law_725 rfl (lv_at hl 0 rfl) ?_
  refine lv_iload_n hx hb dL_law_726 rfl (lv_at hl 3 rfl) ?_
  refine lv_iconst (v := nI 1) hx hb dL_law_727 (by decide) ?_
  refine lv_iadd hx hb dL_law_728 ?_
  refine va_sld hx hb hX hbl hbA hS (ag_in (j := 1) (by omega) hL) dL_law_729 ?_
  refine lw_call C0 hK hN (rest := [.int r]) (as := [.inl (ag xs k 1)]) h2 (k := m_X5_count) (ci := 5) (index := 106) (by decide) rfl (by decide) hw2 rfl (Nat.le_of_ble_eq_true rfl) (ix_wd_in (j := 765) (by decide +kernel)) ⟨(Nat.le_of_ble_eq_true rfl), (Nat.le_of_ble_eq_true rfl)⟩ hl.1 (Nat.le_of_ble_eq_true rfl) dL_law_730 hP hD hS (fun H locs hP hD hS => ?_)
  refine lv_icmp_eq (tgt := 738) hx hb dL_law_733 (by decide) (fun _ => ?_) (fun hne => absurd rfl hne)
  exact kk H locs wc1 wm1 hP hD hS hR1
