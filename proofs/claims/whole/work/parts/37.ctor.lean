/-! constructors -/
theorem ix_newa {p : Program} {l : Launch} {e : Env} {R : Room} {s : State} {m : MethodId} {args : Array Value} {below : List Frame} {meth : Method} {c : Code} {H H0 : Heap} {locs : List Loc} {cells slots : Nat} {Q : State → Prop} {pc : Nat} {ls : Array Slot} {rest : List Value} {cc : ByteArray} {dC : Nat → ClassId} {dI : Nat → Nat → Nat} {cA : ClassId} {ws : va_W} {A : Nat → Prop} (hexec : p.tables.exec = Jvm.exec) (hb : c.code = cc) (harr : (Cond.arrayClass .int).before args s = true) (hK : va_K (dC, dI) vwCl [(cA, .int)] s) (hP : va_P (dC, dI) vwCl ws H) (hD : va_D A ws) (hS : va_S A H0 H locs) (hA : ∀ q, H0.size ≤ q → A q)
    (N : Nat) (hN : N ≤ 1000) (hcells : cells + 1 ≤ R.cells) (hslots : slots + N ≤ R.slots) (hdg : decode cc pc = .ok (.newarray .int, 2))
    (kk : ∀ (q : Nat) (H1 : Heap), va_P (dC, dI) vwCl (ws ++ [(q, .inl (cA, N, .inl (fun _ => 0)))]) H1 → va_D A (ws ++ [(q, .inl (cA, N, .inl (fun _ => 0)))]) → va_S A H0 H1 locs → W p l e R s m args below meth c H1 locs (cells + 1) (slots + N) Q (F0 m (pc + 2) ls (.ref q :: rest))) : W p l e R s m args below meth c H locs cells slots Q (F0 m pc ls (.int (nI N) :: rest)) := by
  refine va_newa (atype := .int) (ty := .int) (a0 := (N, .inl (fun _ => 0))) hexec hb harr rfl hK hP hD hS hA (fun cA => rfl) (nI_pos (by omega)) (nI_clamp (by omega)) (by show N * 4 ≤ 536870912; omega) hcells hslots hdg (fun q cB H1 hK1 hP1 hD1 hS1 => ?_)
  have h1 : s.vm.findClass ("[" ++ FieldType.int.toString) = some cA := (hK.2 0 _ rfl).2
  have h2 : s.vm.findClass ("[" ++ FieldType.int.toString) = some cB := (hK1.2 1 _ rfl).2
  rw [h1] at h2
  cases h2
  exact kk q H1 hP1 hD1 hS1
theorem n_good {y : MethodName} {bytes : ByteArray} {n : Nat} {r : Option FieldType} (hc : .code y bytes n r ∈ ix_gw) : GoodIn ix_gw (.code y bytes n r :: ix_gw) := by
  intro w hw
  rcases List.mem_cons.mp hw with h | h
  · rw [h]; exact ⟨hc, ix_gw_good hc⟩
  · exact ⟨h, ix_gw_good h⟩
theorem dX3_init_0 : decode cX3_init 0 = .ok (.aload_n 0, 1) := by decide +kernel
theorem dX3_init_1 : decode cX3_init 1 = .ok (.invokespecial 3, 3) := by decide +kernel
theorem dX3_init_4 : decode cX3_init 4 = .ok (.aload_n 0, 1) := by decide +kernel
theorem dX3_init_5 : decode cX3_init 5 = .ok (.bipush 64, 2) := by decide +kernel
theorem dX3_init_7 : decode cX3_init 7 = .ok (.newarray .int, 2) := by decide +kernel
theorem dX3_init_9 : decode cX3_init 9 = .ok (.putfield 9, 3) := by decide +kernel
theorem dX3_init_12 : decode cX3_init 12 = .ok (.aload_n 0, 1) := by decide +kernel
theorem dX3_init_13 : decode cX3_init 13 = .ok (.bipush 64, 2) := by decide +kernel
theorem dX3_init_15 : decode cX3_init 15 = .ok (.newarray .int, 2) := by decide +kernel
theorem dX3_init_17 : decode cX3_init 17 = .ok (.putfield 15, 3) := by decide +kernel
theorem dX3_init_20 : decode cX3_init 20 = .ok (.aload_n 0, 1) := by decide +kernel
theorem dX3_init_21 : decode cX3_init 21 = .ok (.iconst 4, 1) := by decide +kernel
theorem dX3_init_22 : decode cX3_init 22 = .ok (.putfield 18, 3) := by decide +kernel
theorem dX3_init_25 : decode cX3_init 25 = .ok (.aload_n 0, 1) := by decide +kernel
theorem dX3_init_26 : decode cX3_init 26 = .ok (.iconst 0, 1) := by decide +kernel
theorem dX3_init_27 : decode cX3_init 27 = .ok (.putfield 22, 3) := by decide +kernel
theorem dX3_init_30 : decode cX3_init 30 = .ok (.return_, 1) := by decide +kernel
set_option maxHeartbeats 4000000 in
set_option maxRecDepth 100000 in
theorem n_X3 (l : Launch) (dC : Nat → ClassId) (dI : Nat → Nat → Nat) (cA : ClassId) (h0 sz : Nat) : Met l yX3_init (.code yX3_init cX3_init 1 none :: ix_gw) ({ frames := 1, cells := 2, slots := 128, locals := 12 }) (va_Pc [.ref h0] (fun U => U.heap.size = sz ∧ va_P (dC, dI) vwCl [(h0, .inr (3, [.null, .null, .int 0, .int 0]))] U.heap ∧ va_K (dC, dI) vwCl [(cA, .int)] U ∧ va_D (fun _ => True) [(h0, .inr (3, [.null, .null, .int 0, .int 0]))])) (va_Qv (fun _ : Nat → Nat => True) (fun u t => va_P (dC, dI) vwCl [(h0, .inr (3, [.ref (u 0), .ref (u 1), .int 4, .int 0])), ((u 0), .inl (cA, 64, .inl (fun _ => 0))), ((u 1), .inl (cA, 64, .inl (fun _ => 0)))] t.heap ∧ va_K (dC, dI) vwCl [(cA, .int)] t ∧ va_D (va_A [(h0, .inr (3, [.null, .null, .int 0, .int 0]))] sz) [(h0, .inr (3, [.ref (u 0), .ref (u 1), .int 4, .int 0])), ((u 0), .inl (cA, 64, .inl (fun _ => 0))), ((u 1), .inl (cA, 64, .inl (fun _ => 0)))]) (va_A [(h0, .inr (3, [.null, .null, .int 0, .int 0]))] sz)) 2 128 (va_A [(h0, .inr (3, [.null, .null, .int 0, .int 0]))] sz) := by
  refine ix_ofW (cc := cX3_init) (maxL := 1) (ret := none) (by decide +kernel) rfl ?_
  intro p e s m args below meth c s₁ B hml hv
  obtain ⟨rfl, hsz, hP, hK, hD0⟩ := hv
  have hx := B.exec
  have hb := B.bytes
  have hr := B.returns
  have hts0 := atoms_spec (ws := .code yX3_init cX3_init 1 none :: ix_gw) B.pre
  have hts : ∀ w ∈ ix_gw, w.before ([Value.ref h0] : List Value).toArray s = true := fun w hw => hts0 w (List.mem_cons_of_mem _ hw)
  have hown : s.vm.findClass RX3 = some m.cls := findClass_of_methodNamed B.named
  have hlocks := B.notSynchronized
  have hin : meth.name = "<init>" := (name_of_methodNamed B.named B.method).1
  have harr : (Cond.arrayClass .int).before ([Value.ref h0] : List Value).toArray s = true := (hts (.arrayClass .int) (ix_wd_in (j := 71) (by decide +kernel)))
  subst hsz
  have hD := hD0.self (sz := s.heap.size)
  generalize hAe : va_A [(h0, .inr (3, [.null, .null, .int 0, .int 0]))] s.heap.size = A at hD ⊢
  have hA : ∀ q : Nat, s.heap.size ≤ q → A q := fun q h => by rw [← hAe]; exact Or.inr h
  have hS : va_S A s.heap s.heap [] := va_S.rf
  have hl := lv_entry ([.ref h0]) (n := 1) (Nat.le_of_ble_eq_true rfl)
  rw [lg_entry_eq]
  generalize (lg_sl ([.ref h0]) ++ List.replicate (1 - (lg_sl ([.ref h0])).length) Slot.unset).toArray = ls at hl ⊢
  have hl : lv_has ls 1 [(0, .ref h0)] := hl
  refine lv_aload_n hx hb dX3_init_0 rfl (lv_at hl 0 rfl) ?_
  refine W.objInit hx hb hown (hts (.methodLink RX3 3 objectInit) (ix_wd_in (j := 57) (by decide +kernel))) (hts (.instanceMethod objectInit) (ix_wd_in (j := 50) (by decide +kernel))) (hts (.code objectInit ⟨#[0xb1]⟩ 1 none) (ix_wd_in (j := 51) (by decide +kernel))) rfl (by rw [hml]; exact hl.1) rfl dX3_init_1 (Nat.le_of_ble_eq_true rfl) (Nat.le_of_ble_eq_true rfl) ?_
  refine W.eq (g2 := F0 m 4 ls []) rfl ?_
  refine lv_aload_n hx hb dX3_init_4 rfl (lv_at hl 0 rfl) ?_
  refine lv_bipush (v := nI 64) hx hb dX3_init_5 (by decide) ?_
  refine ix_newa hx hb harr hK hP hD hS hA 64 (by decide) (Nat.le_of_ble_eq_true rfl) (Nat.le_of_ble_eq_true rfl) dX3_init_7 (fun q0 H hP hD hS => ?_)
  have hP : va_P (dC, dI) vwCl [(h0, .inr (3, [.null, .null, .int 0, .int 0])), (q0, .inl (cA, 64, .inl (fun _ => 0)))] H := hP
  have hD : va_D A [(h0, .inr (3, [.null, .null, .int 0, .int 0])), (q0, .inl (cA, 64, .inl (fun _ => 0)))] := hD
  refine W.widen (k := 1) (n := 64) (Nat.le_of_ble_eq_true rfl) (Nat.le_of_ble_eq_true rfl) ?_
  refine va_putF (D := (dC, dI)) (ci := 3) (v := .ref q0) (ty := .array .int) (C := RX3) (T := TX3) (N := 4) hx hb hts ix_uw3 tyX3 tyX3_ok nmX3 hown hK hP hD hS 0 rfl rfl 0 (by decide) (hts (.fieldLink RX3 9 "ColdGrid$Weights" "table" "[I") (ix_wd_in (j := 58) (by decide +kernel))) (fun _ h9 => h9) rfl hin rfl (by decide +kernel) rfl rfl (Nat.le_of_ble_eq_true rfl) dX3_init_9 (fun H locs hP hD hS => ?_)
  have hP : va_P (dC, dI) vwCl [(h0, .inr (3, [.ref q0, .null, .int 0, .int 0])), (q0, .inl (cA, 64, .inl (fun _ => 0)))] H := hP
  have hD : va_D A [(h0, .inr (3, [.ref q0, .null, .int 0, .int 0])), (q0, .inl (cA, 64, .inl (fun _ => 0)))] := hD
  refine lv_aload_n hx hb dX3_init_12 rfl (lv_at hl 0 rfl) ?_
  refine lv_bipush (v := nI 64) hx hb dX3_init_13 (by decide) ?_
  refine ix_newa hx hb harr hK hP hD hS hA 64 (by decide) (Nat.le_of_ble_eq_true rfl) (Nat.le_of_ble_eq_true rfl) dX3_init_15 (fun q1 H hP hD hS => ?_)
  have hP : va_P (dC, dI) vwCl [(h0, .inr (3, [.ref q0, .null, .int 0, .int 0])), (q0, .inl (cA, 64, .inl (fun _ => 0))), (q1, .inl (cA, 64, .inl (fun _ => 0)))] H := hP
  have hD : va_D A [(h0, .inr (3, [.ref q0, .null, .int 0, .int 0])), (q0, .inl (cA, 64, .inl (fun _ => 0))), (q1, .inl (cA, 64, .inl (fun _ => 0)))] := hD
  refine W.widen (k := 2) (n := 128) (Nat.le_of_ble_eq_true rfl) (Nat.le_of_ble_eq_true rfl) ?_
  refine va_putF (D := (dC, dI)) (ci := 3) (v := .ref q1) (ty := .array .int) (C := RX3) (T := TX3) (N := 4) hx hb hts ix_uw3 tyX3 tyX3_ok nmX3 hown hK hP hD hS 0 rfl rfl 1 (by decide) (hts (.fieldLink RX3 15 "ColdGrid$Weights" "turned" "[I") (ix_wd_in (j := 59) (by decide +kernel))) (fun _ h9 => h9) rfl hin rfl (by decide +kernel) rfl rfl (Nat.le_of_ble_eq_true rfl) dX3_init_17 (fun H locs hP hD hS => ?_)
  have hP : va_P (dC, dI) vwCl [(h0, .inr (3, [.ref q0, .ref q1, .int 0, .int 0])), (q0, .inl (cA, 64, .inl (fun _ => 0))), (q1, .inl (cA, 64, .inl (fun _ => 0)))] H := hP
  have hD : va_D A [(h0, .inr (3, [.ref q0, .ref q1, .int 0, .int 0])), (q0, .inl (cA, 64, .inl (fun _ => 0))), (q1, .inl (cA, 64, .inl (fun _ => 0)))] := hD
  refine lv_aload_n hx hb dX3_init_20 rfl (lv_at hl 0 rfl) ?_
  refine lv_iconst (v := 4) hx hb dX3_init_21 (by decide) ?_
  refine va_put (D := (dC, dI)) (ci := 3) (v := .int 4) (ty := .int) (C := RX3) (T := TX3) (N := 4) hx hb hts ix_uw3 tyX3 tyX3_ok nmX3 hown hK hP hD hS 0 rfl rfl 2 (by decide) (hts (.fieldLink RX3 18 "ColdGrid$Weights" "n" "I") (ix_wd_in (j := 60) (by decide +kernel))) (fun _ h9 => h9) rfl (by decide +kernel) rfl rfl (Nat.le_of_ble_eq_true rfl) dX3_init_22 (fun H locs hP hD hS => ?_)
  have hP : va_P (dC, dI) vwCl [(h0, .inr (3, [.ref q0, .ref q1, .int 4, .int 0])), (q0, .inl (cA, 64, .inl (fun _ => 0))), (q1, .inl (cA, 64, .inl (fun _ => 0)))] H := hP
  have hD : va_D A [(h0, .inr (3, [.ref q0, .ref q1, .int 4, .int 0])), (q0, .inl (cA, 64, .inl (fun _ => 0))), (q1, .inl (cA, 64, .inl (fun _ => 0)))] := hD
  refine lv_aload_n hx hb dX3_init_25 rfl (lv_at hl 0 rfl) ?_
  refine lv_iconst (v := 0) hx hb dX3_init_26 (by decide) ?_
  refine va_put (D := (dC, dI)) (ci := 3) (v := .int 0) (ty := .int) (C := RX3) (T := TX3) (N := 4) hx hb hts ix_uw3 tyX3 tyX3_ok nmX3 hown hK hP hD hS 0 rfl rfl 3 (by decide) (hts (.fieldLink RX3 22 "ColdGrid$Weights" "constant" "I") (ix_wd_in (j := 61) (by decide +kernel))) (fun _ h9 => h9) rfl (by decide +kernel) rfl rfl (Nat.le_of_ble_eq_true rfl) dX3_init_27 (fun H locs hP hD hS => ?_)
  have hP : va_P (dC, dI) vwCl [(h0, .inr (3, [.ref q0, .ref q1, .int 4, .int 0])), (q0, .inl (cA, 64, .inl (fun _ => 0))), (q1, .inl (cA, 64, .inl (fun _ => 0)))] H := hP
  have hD : va_D A [(h0, .inr (3, [.ref q0, .ref q1, .int 4, .int 0])), (q0, .inl (cA, 64, .inl (fun _ => 0))), (q1, .inl (cA, 64, .inl (fun _ => 0)))] := hD
  exact W.vret hx hb hr (fun t ht hW => ⟨⟨fun i => [q0, q1].getD i 0, rfl, trivial, by rw [ht]; exact hP, va_K.moved hW.alike hK, hD⟩, hS.F ht⟩) hS.2.2 dX3_init_30
theorem dX2_init_0 : decode cX2_init 0 = .ok (.aload_n 0, 1) := by decide +kernel
theorem dX2_init_1 : decode cX2_init 1 = .ok (.invokespecial 3, 3) := by decide +kernel
theorem dX2_init_4 : decode cX2_init 4 = .ok (.aload_n 0, 1) := by decide +kernel
theorem dX2_init_5 : decode cX2_init 5 = .ok (.bipush 6, 2) := by decide +kernel
theorem dX2_init_7 : decode cX2_init 7 = .ok (.newarray .int, 2) := by decide +kernel
theorem dX2_init_9 : decode cX2_init 9 = .ok (.putfield 11, 3) := by decide +kernel
theorem dX2_init_12 : decode cX2_init 12 = .ok (.aload_n 0, 1) := by decide +kernel
theorem dX2_init_13 : decode cX2_init 13 = .ok (.bipush 6, 2) := by decide +kernel
theorem dX2_init_15 : decode cX2_init 15 = .ok (.newarray .int, 2) := by decide +kernel
theorem dX2_init_17 : decode cX2_init 17 = .ok (.putfield 15, 3) := by decide +kernel
theorem dX2_init_20 : decode cX2_init 20 = .ok (.aload_n 0, 1) := by decide +kernel
theorem dX2_init_21 : decode cX2_init 21 = .ok (.iconst 0, 1) := by decide +kernel
theorem dX2_init_22 : decode cX2_init 22 = .ok (.putfield 18, 3) := by decide +kernel
theorem dX2_init_25 : decode cX2_init 25 = .ok (.return_, 1) := by decide +kernel
set_option maxHeartbeats 4000000 in
set_option maxRecDepth 100000 in
theorem n_X2 (l : Launch) (dC : Nat → ClassId) (dI : Nat → Nat → Nat) (cA : ClassId) (h0 sz : Nat) : Met l yX2_init (.code yX2_init cX2_init 1 none :: ix_gw) ({ frames := 1, cells := 2, slots := 12, locals := 12 }) (va_Pc [.ref h0] (fun U => U.heap.size = sz ∧ va_P (dC, dI) vwCl [(h0, .inr (2, [.null, .null, .int 0]))] U.heap ∧ va_K (dC, dI) vwCl [(cA, .int)] U ∧ va_D (fun _ => True) [(h0, .inr (2, [.null, .null, .int 0]))])) (va_Qv (fun _ : Nat → Nat => True) (fun u t => va_P (dC, dI) vwCl [(h0, .inr (2, [.ref (u 0), .ref (u 1), .int 0])), ((u 0), .inl (cA, 6, .inl (fun _ => 0))), ((u 1), .inl (cA, 6, .inl (fun _ => 0)))] t.heap ∧ va_K (dC, dI) vwCl [(cA, .int)] t ∧ va_D (va_A [(h0, .inr (2, [.null, .null, .int 0]))] sz) [(h0, .inr (2, [.ref (u 0), .ref (u 1), .int 0])), ((u 0), .inl (cA, 6, .inl (fun _ => 0))), ((u 1), .inl (cA, 6, .inl (fun _ => 0)))]) (va_A [(h0, .inr (2, [.null, .null, .int 0]))] sz)) 2 12 (va_A [(h0, .inr (2, [.null, .null, .int 0]))] sz) := by
  refine ix_ofW (cc := cX2_init) (maxL := 1) (ret := none) (by decide +kernel) rfl ?_
  intro p e s m args below meth c s₁ B hml hv
  obtain ⟨rfl, hsz, hP, hK, hD0⟩ := hv
  have hx := B.exec
  have hb := B.bytes
  have hr := B.returns
  have hts0 := atoms_spec (ws := .code yX2_init cX2_init 1 none :: ix_gw) B.pre
  have hts : ∀ w ∈ ix_gw, w.before ([Value.ref h0] : List Value).toArray s = true := fun w hw => hts0 w (List.mem_cons_of_mem _ hw)
  have hown : s.vm.findClass RX2 = some m.cls := findClass_of_methodNamed B.named
  have hlocks := B.notSynchronized
  have hin : meth.name = "<init>" := (name_of_methodNamed B.named B.method).1
  have harr : (Cond.arrayClass .int).before ([Value.ref h0] : List Value).toArray s = true := (hts (.arrayClass .int) (ix_wd_in (j := 71) (by decide +kernel)))
  subst hsz
  have hD := hD0.self (sz := s.heap.size)
  generalize hAe : va_A [(h0, .inr (2, [.null, .null, .int 0]))] s.heap.size = A at hD ⊢
  have hA : ∀ q : Nat, s.heap.size ≤ q → A q := fun q h => by rw [← hAe]; exact Or.inr h
  have hS : va_S A s.heap s.heap [] := va_S.rf
  have hl := lv_entry ([.ref h0]) (n := 1) (Nat.le_of_ble_eq_true rfl)
  rw [lg_entry_eq]
  generalize (lg_sl ([.ref h0]) ++ List.replicate (1 - (lg_sl ([.ref h0])).length) Slot.unset).toArray = ls at hl ⊢
  have hl : lv_has ls 1 [(0, .ref h0)] := hl
  refine lv_aload_n hx hb dX2_init_0 rfl (lv_at hl 0 rfl) ?_
  refine W.objInit hx hb hown (hts (.methodLink RX2 3 objectInit) (ix_wd_in (j := 77) (by decide +kernel))) (hts (.instanceMethod objectInit) (ix_wd_in (j := 50) (by decide +kernel))) (hts (.code objectInit ⟨#[0xb1]⟩ 1 none) (ix_wd_in (j := 51) (by decide +kernel))) rfl (by rw [hml]; exact hl.1) rfl dX2_init_1 (Nat.le_of_ble_eq_true rfl) (Nat.le_of_ble_eq_true rfl) ?_
  refine W.eq (g2 := F0 m 4 ls []) rfl ?_
  refine lv_aload_n hx hb dX2_init_4 rfl (lv_at hl 0 rfl) ?_
  refine lv_bipush (v := nI 6) hx hb dX2_init_5 (by decide) ?_
  refine ix_newa hx hb harr hK hP hD hS hA 6 (by decide) (Nat.le_of_ble_eq_true rfl) (Nat.le_of_ble_eq_true rfl) dX2_init_7 (fun q0 H hP hD hS => ?_)
  have hP : va_P (dC, dI) vwCl [(h0, .inr (2, [.null, .null, .int 0])), (q0, .inl (cA, 6, .inl (fun _ => 0)))] H := hP
  have hD : va_D A [(h0, .inr (2, [.null, .null, .int 0])), (q0, .inl (cA, 6, .inl (fun _ => 0)))] := hD
  refine W.widen (k := 1) (n := 6) (Nat.le_of_ble_eq_true rfl) (Nat.le_of_ble_eq_true rfl) ?_
  refine va_putF (D := (dC, dI)) (ci := 2) (v := .ref q0) (ty := .array .int) (C := RX2) (T := TX2) (N := 3) hx hb hts ix_uw2 tyX2 tyX2_ok nmX2 hown hK hP hD hS 0 rfl rfl 0 (by decide) (hts (.fieldLink RX2 11 "ColdGrid$Laws" "sets" "[I") (ix_wd_in (j := 78) (by decide +kernel))) (fun _ h9 => h9) rfl hin rfl (by decide +kernel) rfl rfl (Nat.le_of_ble_eq_true rfl) dX2_init_9 (fun H locs hP hD hS => ?_)
  have hP : va_P (dC, dI) vwCl [(h0, .inr (2, [.ref q0, .null, .int 0])), (q0, .inl (cA, 6, .inl (fun _ => 0)))] H := hP
  have hD : va_D A [(h0, .inr (2, [.ref q0, .null, .int 0])), (q0, .inl (cA, 6, .inl (fun _ => 0)))] := hD
  refine lv_aload_n hx hb dX2_init_12 rfl (lv_at hl 0 rfl) ?_
  refine lv_bipush (v := nI 6) hx hb dX2_init_13 (by decide) ?_
  refine ix_newa hx hb harr hK hP hD hS hA 6 (by decide) (Nat.le_of_ble_eq_true rfl) (Nat.le_of_ble_eq_true rfl) dX2_init_15 (fun q1 H hP hD hS => ?_)
  have hP : va_P (dC, dI) vwCl [(h0, .inr (2, [.ref q0, .null, .int 0])), (q0, .inl (cA, 6, .inl (fun _ => 0))), (q1, .inl (cA, 6, .inl (fun _ => 0)))] H := hP
  have hD : va_D A [(h0, .inr (2, [.ref q0, .null, .int 0])), (q0, .inl (cA, 6, .inl (fun _ => 0))), (q1, .inl (cA, 6, .inl (fun _ => 0)))] := hD
  refine W.widen (k := 2) (n := 12) (Nat.le_of_ble_eq_true rfl) (Nat.le_of_ble_eq_true rfl) ?_
  refine va_putF (D := (dC, dI)) (ci := 2) (v := .ref q1) (ty := .array .int) (C := RX2) (T := TX2) (N := 3) hx hb hts ix_uw2 tyX2 tyX2_ok nmX2 hown hK hP hD hS 0 rfl rfl 1 (by decide) (hts (.fieldLink RX2 15 "ColdGrid$Laws" "ones" "[I") (ix_wd_in (j := 79) (by decide +kernel))) (fun _ h9 => h9) rfl hin rfl (by decide +kernel) rfl rfl (Nat.le_of_ble_eq_true rfl) dX2_init_17 (fun H locs hP hD hS => ?_)
  have hP : va_P (dC, dI) vwCl [(h0, .inr (2, [.ref q0, .ref q1, .int 0])), (q0, .inl (cA, 6, .inl (fun _ => 0))), (q1, .inl (cA, 6, .inl (fun _ => 0)))] H := hP
  have hD : va_D A [(h0, .inr (2, [.ref q0, .ref q1, .int 0])), (q0, .inl (cA, 6, .inl (fun _ => 0))), (q1, .inl (cA, 6, .inl (fun _ => 0)))] := hD
  refine lv_aload_n hx hb dX2_init_20 rfl (lv_at hl 0 rfl) ?_
  refine lv_iconst (v := 0) hx hb dX2_init_21 (by decide) ?_
  refine va_put (D := (dC, dI)) (ci := 2) (v := .int 0) (ty := .int) (C := RX2) (T := TX2) (N := 3) hx hb hts ix_uw2 tyX2 tyX2_ok nmX2 hown hK hP hD hS 0 rfl rfl 2 (by decide) (hts (.fieldLink RX2 18 "ColdGrid$Laws" "told" "I") (ix_wd_in (j := 80) (by decide +kernel))) (fun _ h9 => h9) rfl (by decide +kernel) rfl rfl (Nat.le_of_ble_eq_true rfl) dX2_init_22 (fun H locs hP hD hS => ?_)
  have hP : va_P (dC, dI) vwCl [(h0, .inr (2, [.ref q0, .ref q1, .int 0])), (q0, .inl (cA, 6, .inl (fun _ => 0))), (q1, .inl (cA, 6, .inl (fun _ => 0)))] H := hP
  have hD : va_D A [(h0, .inr (2, [.ref q0, .ref q1, .int 0])), (q0, .inl (cA, 6, .inl (fun _ => 0))), (q1, .inl (cA, 6, .inl (fun _ => 0)))] := hD
  exact W.vret hx hb hr (fun t ht hW => ⟨⟨fun i => [q0, q1].getD i 0, rfl, trivial, by rw [ht]; exact hP, va_K.moved hW.alike hK, hD⟩, hS.F ht⟩) hS.2.2 dX2_init_25
theorem dX1_init_0 : decode cX1_init 0 = .ok (.aload_n 0, 1) := by decide +kernel
theorem dX1_init_1 : decode cX1_init 1 = .ok (.invokespecial 5, 3) := by decide +kernel
theorem dX1_init_4 : decode cX1_init 4 = .ok (.aload_n 0, 1) := by decide +kernel
theorem dX1_init_5 : decode cX1_init 5 = .ok (.bipush 8, 2) := by decide +kernel
theorem dX1_init_7 : decode cX1_init 7 = .ok (.newarray .int, 2) := by decide +kernel
theorem dX1_init_9 : decode cX1_init 9 = .ok (.putfield 11, 3) := by decide +kernel
theorem dX1_init_12 : decode cX1_init 12 = .ok (.aload_n 0, 1) := by decide +kernel
theorem dX1_init_13 : decode cX1_init 13 = .ok (.iconst 0, 1) := by decide +kernel
theorem dX1_init_14 : decode cX1_init 14 = .ok (.putfield 15, 3) := by decide +kernel
theorem dX1_init_17 : decode cX1_init 17 = .ok (.return_, 1) := by decide +kernel
set_option maxHeartbeats 4000000 in
set_option maxRecDepth 100000 in
theorem n_X1 (l : Launch) (dC : Nat → ClassId) (dI : Nat → Nat → Nat) (cA : ClassId) (h0 sz : Nat) : Met l yX1_init (.code yX1_init cX1_init 1 none :: ix_gw) ({ frames := 1, cells := 1, slots := 8, locals := 12 }) (va_Pc [.ref h0] (fun U => U.heap.size = sz ∧ va_P (dC, dI) vwCl [(h0, .inr (1, [.null, .int 0]))] U.heap ∧ va_K (dC, dI) vwCl [(cA, .int)] U ∧ va_D (fun _ => True) [(h0, .inr (1, [.null, .int 0]))])) (va_Qv (fun _ : Nat → Nat => True) (fun u t => va_P (dC, dI) vwCl [(h0, .inr (1, [.ref (u 0), .int 0])), ((u 0), .inl (cA, 8, .inl (fun _ => 0)))] t.heap ∧ va_K (dC, dI) vwCl [(cA, .int)] t ∧ va_D (va_A [(h0, .inr (1, [.null, .int 0]))] sz) [(h0, .inr (1, [.ref (u 0), .int 0])), ((u 0), .inl (cA, 8, .inl (fun _ => 0)))]) (va_A [(h0, .inr (1, [.null, .int 0]))] sz)) 1 8 (va_A [(h0, .inr (1, [.null, .int 0]))] sz) := by
  refine ix_ofW (cc := cX1_init) (maxL := 1) (ret := none) (by decide +kernel) rfl ?_
  intro p e s m args below meth c s₁ B hml hv
  obtain ⟨rfl, hsz, hP, hK, hD0⟩ := hv
  have hx := B.exec
  have hb := B.bytes
  have hr := B.returns
  have hts0 := atoms_spec (ws := .code yX1_init cX1_init 1 none :: ix_gw) B.pre
  have hts : ∀ w ∈ ix_gw, w.before ([Value.ref h0] : List Value).toArray s = true := fun w hw => hts0 w (List.mem_cons_of_mem _ hw)
  have hown : s.vm.findClass RX1 = some m.cls := findClass_of_methodNamed B.named
  have hlocks := B.notSynchronized
  have hin : meth.name = "<init>" := (name_of_methodNamed B.named B.method).1
  have harr : (Cond.arrayClass .int).before ([Value.ref h0] : List Value).toArray s = true := (hts (.arrayClass .int) (ix_wd_in (j := 71) (by decide +kernel)))
  subst hsz
  have hD := hD0.self (sz := s.heap.size)
  generalize hAe : va_A [(h0, .inr (1, [.null, .int 0]))] s.heap.size = A at hD ⊢
  have hA : ∀ q : Nat, s.heap.size ≤ q → A q := fun q h => by rw [← hAe]; exact Or.inr h
  have hS : va_S A s.heap s.heap [] := va_S.rf
  have hl := lv_entry ([.ref h0]) (n := 1) (Nat.le_of_ble_eq_true rfl)
  rw [lg_entry_eq]
  generalize (lg_sl ([.ref h0]) ++ List.replicate (1 - (lg_sl ([.ref h0])).length) Slot.unset).toArray = ls at hl ⊢
  have hl : lv_has ls 1 [(0, .ref h0)] := hl
  refine lv_aload_n hx hb dX1_init_0 rfl (lv_at hl 0 rfl) ?_
  refine W.objInit hx hb hown (hts (.methodLink RX1 5 objectInit) (ix_wd_in (j := 93) (by decide +kernel))) (hts (.instanceMethod objectInit) (ix_wd_in (j := 50) (by decide +kernel))) (hts (.code objectInit ⟨#[0xb1]⟩ 1 none) (ix_wd_in (j := 51) (by decide +kernel))) rfl (by rw [hml]; exact hl.1) rfl dX1_init_1 (Nat.le_of_ble_eq_true rfl) (Nat.le_of_ble_eq_true rfl) ?_
  refine W.eq (g2 := F0 m 4 ls []) rfl ?_
  refine lv_aload_n hx hb dX1_init_4 rfl (lv_at hl 0 rfl) ?_
  refine lv_bipush (v := nI 8) hx hb dX1_init_5 (by decide) ?_
  refine ix_newa hx hb harr hK hP hD hS hA 8 (by decide) (Nat.le_of_ble_eq_true rfl) (Nat.le_of_ble_eq_true rfl) dX1_init_7 (fun q0 H hP hD hS => ?_)
  have hP : va_P (dC, dI) vwCl [(h0, .inr (1, [.null, .int 0])), (q0, .inl (cA, 8, .inl (fun _ => 0)))] H := hP
  have hD : va_D A [(h0, .inr (1, [.null, .int 0])), (q0, .inl (cA, 8, .inl (fun _ => 0)))] := hD
  refine W.widen (k := 1) (n := 8) (Nat.le_of_ble_eq_true rfl) (Nat.le_of_ble_eq_true rfl) ?_
  refine va_putF (D := (dC, dI)) (ci := 1) (v := .ref q0) (ty := .array .int) (C := RX1) (T := TX1) (N := 2) hx hb hts ix_uw1 tyX1 tyX1_ok nmX1 hown hK hP hD hS 0 rfl rfl 0 (by decide) (hts (.fieldLink RX1 11 "ColdGrid$Grid" "chains" "[I") (ix_wd_in (j := 94) (by decide +kernel))) (fun _ h9 => h9) rfl hin rfl (by decide +kernel) rfl rfl (Nat.le_of_ble_eq_true rfl) dX1_init_9 (fun H locs hP hD hS => ?_)
  have hP : va_P (dC, dI) vwCl [(h0, .inr (1, [.ref q0, .int 0])), (q0, .inl (cA, 8, .inl (fun _ => 0)))] H := hP
  have hD : va_D A [(h0, .inr (1, [.ref q0, .int 0])), (q0, .inl (cA, 8, .inl (fun _ => 0)))] := hD
  refine lv_aload_n hx hb dX1_init_12 rfl (lv_at hl 0 rfl) ?_
  refine lv_iconst (v := 0) hx hb dX1_init_13 (by decide) ?_
  refine va_put (D := (dC, dI)) (ci := 1) (v := .int 0) (ty := .int) (C := RX1) (T := TX1) (N := 2) hx hb hts ix_uw1 tyX1 tyX1_ok nmX1 hown hK hP hD hS 0 rfl rfl 1 (by decide) (hts (.fieldLink RX1 15 "ColdGrid$Grid" "dead" "I") (ix_wd_in (j := 95) (by decide +kernel))) (fun _ h9 => h9) rfl (by decide +kernel) rfl rfl (Nat.le_of_ble_eq_true rfl) dX1_init_14 (fun H locs hP hD hS => ?_)
  have hP : va_P (dC, dI) vwCl [(h0, .inr (1, [.ref q0, .int 0])), (q0, .inl (cA, 8, .inl (fun _ => 0)))] H := hP
  have hD : va_D A [(h0, .inr (1, [.ref q0, .int 0])), (q0, .inl (cA, 8, .inl (fun _ => 0)))] := hD
  exact W.vret hx hb hr (fun t ht hW => ⟨⟨fun i => [q0].getD i 0, rfl, trivial, by rw [ht]; exact hP, va_K.moved hW.alike hK, hD⟩, hS.F ht⟩) hS.2.2 dX1_init_17
theorem dX0_init_0 : decode cX0_init 0 = .ok (.aload_n 0, 1) := by decide +kernel
theorem dX0_init_1 : decode cX0_init 1 = .ok (.invokespecial 1, 3) := by decide +kernel
theorem dX0_init_4 : decode cX0_init 4 = .ok (.aload_n 0, 1) := by decide +kernel
theorem dX0_init_5 : decode cX0_init 5 = .ok (.bipush 20, 2) := by decide +kernel
theorem dX0_init_7 : decode cX0_init 7 = .ok (.newarray .int, 2) := by decide +kernel
theorem dX0_init_9 : decode cX0_init 9 = .ok (.putfield 9, 3) := by decide +kernel
theorem dX0_init_12 : decode cX0_init 12 = .ok (.aload_n 0, 1) := by decide +kernel
theorem dX0_init_13 : decode cX0_init 13 = .ok (.bipush 20, 2) := by decide +kernel
theorem dX0_init_15 : decode cX0_init 15 = .ok (.newarray .int, 2) := by decide +kernel
theorem dX0_init_17 : decode cX0_init 17 = .ok (.putfield 15, 3) := by decide +kernel
theorem dX0_init_20 : decode cX0_init 20 = .ok (.aload_n 0, 1) := by decide +kernel
theorem dX0_init_21 : decode cX0_init 21 = .ok (.bipush 20, 2) := by decide +kernel
theorem dX0_init_23 : decode cX0_init 23 = .ok (.newarray .int, 2) := by decide +kernel
theorem dX0_init_25 : decode cX0_init 25 = .ok (.putfield 18, 3) := by decide +kernel
theorem dX0_init_28 : decode cX0_init 28 = .ok (.aload_n 0, 1) := by decide +kernel
theorem dX0_init_29 : decode cX0_init 29 = .ok (.bipush 14, 2) := by decide +kernel
theorem dX0_init_31 : decode cX0_init 31 = .ok (.newarray .int, 2) := by decide +kernel
theorem dX0_init_33 : decode cX0_init 33 = .ok (.putfield 21, 3) := by decide +kernel
theorem dX0_init_36 : decode cX0_init 36 = .ok (.aload_n 0, 1) := by decide +kernel
theorem dX0_init_37 : decode cX0_init 37 = .ok (.iconst 0, 1) := by decide +kernel
theorem dX0_init_38 : decode cX0_init 38 = .ok (.putfield 24, 3) := by decide +kernel
theorem dX0_init_41 : decode cX0_init 41 = .ok (.aload_n 0, 1) := by decide +kernel
theorem dX0_init_42 : decode cX0_init 42 = .ok (.iconst 0, 1) := by decide +kernel
theorem dX0_init_43 : decode cX0_init 43 = .ok (.putfield 28, 3) := by decide +kernel
theorem dX0_init_46 : decode cX0_init 46 = .ok (.aload_n 0, 1) := by decide +kernel
theorem dX0_init_47 : decode cX0_init 47 = .ok (.iconst 0, 1) := by decide +kernel
theorem dX0_init_48 : decode cX0_init 48 = .ok (.putfield 31, 3) := by decide +kernel
theorem dX0_init_51 : decode cX0_init 51 = .ok (.aload_n 0, 1) := by decide +kernel
theorem dX0_init_52 : decode cX0_init 52 = .ok (.iconst 0, 1) := by decide +kernel
theorem dX0_init_53 : decode cX0_init 53 = .ok (.putfield 34, 3) := by decide +kernel
theorem dX0_init_56 : decode cX0_init 56 = .ok (.return_, 1) := by decide +kernel
set_option maxHeartbeats 4000000 in
set_option maxRecDepth 100000 in
theorem n_X0 (l : Launch) (dC : Nat → ClassId) (dI : Nat → Nat → Nat) (cA : ClassId) (h0 sz : Nat) : Met l yX0_init (.code yX0_init cX0_init 1 none :: ix_gw) ({ frames := 1, cells := 4, slots := 74, locals := 12 }) (va_Pc [.ref h0] (fun U => U.heap.size = sz ∧ va_P (dC, dI) vwCl [(h0, .inr (0, [.null, .null, .null, .null, .int 0, .int 0, .int 0, .int 0]))] U.heap ∧ va_K (dC, dI) vwCl [(cA, .int)] U ∧ va_D (fun _ => True) [(h0, .inr (0, [.null, .null, .null, .null, .int 0, .int 0, .int 0, .int 0]))])) (va_Qv (fun _ : Nat → Nat => True) (fun u t => va_P (dC, dI) vwCl [(h0, .inr (0, [.ref (u 0), .ref (u 1), .ref (u 2), .ref (u 3), .int 0, .int 0, .int 0, .int 0])), ((u 0), .inl (cA, 20, .inl (fun _ => 0))), ((u 1), .inl (cA, 20, .inl (fun _ => 0))), ((u 2), .inl (cA, 20, .inl (fun _ => 0))), ((u 3), .inl (cA, 14, .inl (fun _ => 0)))] t.heap ∧ va_K (dC, dI) vwCl [(cA, .int)] t ∧ va_D (va_A [(h0, .inr (0, [.null, .null, .null, .null, .int 0, .int 0, .int 0, .int 0]))] sz) [(h0, .inr (0, [.ref (u 0), .ref (u 1), .ref (u 2), .ref (u 3), .int 0, .int 0, .int 0, .int 0])), ((u 0), .inl (cA, 20, .inl (fun _ => 0))), ((u 1), .inl (cA, 20, .inl (fun _ => 0))), ((u 2), .inl (cA, 20, .inl (fun _ => 0))), ((u 3), .inl (cA, 14, .inl (fun _ => 0)))]) (va_A [(h0, .inr (0, [.null, .null, .null, .null, .int 0, .int 0, .int 0, .int 0]))] sz)) 4 74 (va_A [(h0, .inr (0, [.null, .null, .null, .null, .int 0, .int 0, .int 0, .int 0]))] sz) := by
  refine ix_ofW (cc := cX0_init) (maxL := 1) (ret := none) (by decide +kernel) rfl ?_
  intro p e s m args below meth c s₁ B hml hv
  obtain ⟨rfl, hsz, hP, hK, hD0⟩ := hv
  have hx := B.exec
  have hb := B.bytes
  have hr := B.returns
  have hts0 := atoms_spec (ws := .code yX0_init cX0_init 1 none :: ix_gw) B.pre
  have hts : ∀ w ∈ ix_gw, w.before ([Value.ref h0] : List Value).toArray s = true := fun w hw => hts0 w (List.mem_cons_of_mem _ hw)
  have hown : s.vm.findClass RX0 = some m.cls := findClass_of_methodNamed B.named
  have hlocks := B.notSynchronized
  have hin : meth.name = "<init>" := (name_of_methodNamed B.named B.method).1
  have harr : (Cond.arrayClass .int).before ([Value.ref h0] : List Value).toArray s = true := (hts (.arrayClass .int) (ix_wd_in (j := 71) (by decide +kernel)))
  subst hsz
  have hD := hD0.self (sz := s.heap.size)
  generalize hAe : va_A [(h0, .inr (0, [.null, .null, .null, .null, .int 0, .int 0, .int 0, .int 0]))] s.heap.size = A at hD ⊢
  have hA : ∀ q : Nat, s.heap.size ≤ q → A q := fun q h => by rw [← hAe]; exact Or.inr h
  have hS : va_S A s.heap s.heap [] := va_S.rf
  have hl := lv_entry ([.ref h0]) (n := 1) (Nat.le_of_ble_eq_true rfl)
  rw [lg_entry_eq]
  generalize (lg_sl ([.ref h0]) ++ List.replicate (1 - (lg_sl ([.ref h0])).length) Slot.unset).toArray = ls at hl ⊢
  have hl : lv_has ls 1 [(0, .ref h0)] := hl
  refine lv_aload_n hx hb dX0_init_0 rfl (lv_at hl 0 rfl) ?_
  refine W.objInit hx hb hown (hts (.methodLink RX0 1 objectInit) (ix_wd_in (j := 106) (by decide +kernel))) (hts (.instanceMethod objectInit) (ix_wd_in (j := 50) (by decide +kernel))) (hts (.code objectInit ⟨#[0xb1]⟩ 1 none) (ix_wd_in (j := 51) (by decide +kernel))) rfl (by rw [hml]; exact hl.1) rfl dX0_init_1 (Nat.le_of_ble_eq_true rfl) (Nat.le_of_ble_eq_true rfl) ?_
  refine W.eq (g2 := F0 m 4 ls []) rfl ?_
  refine lv_aload_n hx hb dX0_init_4 rfl (lv_at hl 0 rfl) ?_
  refine lv_bipush (v := nI 20) hx hb dX0_init_5 (by decide) ?_
  refine ix_newa hx hb harr hK hP hD hS hA 20 (by decide) (Nat.le_of_ble_eq_true rfl) (Nat.le_of_ble_eq_true rfl) dX0_init_7 (fun q0 H hP hD hS => ?_)
  have hP : va_P (dC, dI) vwCl [(h0, .inr (0, [.null, .null, .null, .null, .int 0, .int 0, .int 0, .int 0])), (q0, .inl (cA, 20, .inl (fun _ => 0)))] H := hP
  have hD : va_D A [(h0, .inr (0, [.null, .null, .null, .null, .int 0, .int 0, .int 0, .int 0])), (q0, .inl (cA, 20, .inl (fun _ => 0)))] := hD
  refine W.widen (k := 1) (n := 20) (Nat.le_of_ble_eq_true rfl) (Nat.le_of_ble_eq_true rfl) ?_
  refine va_putF (D := (dC, dI)) (ci := 0) (v := .ref q0) (ty := .array .int) (C := RX0) (T := TX0) (N := 8) hx hb hts ix_uw0 tyX0 tyX0_ok nmX0 hown hK hP hD hS 0 rfl rfl 0 (by decide) (hts (.fieldLink RX0 9 "ColdGrid$CellEnergy" "own" "[I") (ix_wd_in (j := 107) (by decide +kernel))) (fun _ h9 => h9) rfl hin rfl (by decide +kernel) rfl rfl (Nat.le_of_ble_eq_true rfl) dX0_init_9 (fun H locs hP hD hS => ?_)
  have hP : va_P (dC, dI) vwCl [(h0, .inr (0, [.ref q0, .null, .null, .null, .int 0, .int 0, .int 0, .int 0])), (q0, .inl (cA, 20, .inl (fun _ => 0)))] H := hP
  have hD : va_D A [(h0, .inr (0, [.ref q0, .null, .null, .null, .int 0, .int 0, .int 0, .int 0])), (q0, .inl (cA, 20, .inl (fun _ => 0)))] := hD
  refine lv_aload_n hx hb dX0_init_12 rfl (lv_at hl 0 rfl) ?_
  refine lv_bipush (v := nI 20) hx hb dX0_init_13 (by decide) ?_
  refine ix_newa hx hb harr hK hP hD hS hA 20 (by decide) (Nat.le_of_ble_eq_true rfl) (Nat.le_of_ble_eq_true rfl) dX0_init_15 (fun q1 H hP hD hS => ?_)
  have hP : va_P (dC, dI) vwCl [(h0, .inr (0, [.ref q0, .null, .null, .null, .int 0, .int 0, .int 0, .int 0])), (q0, .inl (cA, 20, .inl (fun _ => 0))), (q1, .inl (cA, 20, .inl (fun _ => 0)))] H := hP
  have hD : va_D A [(h0, .inr (0, [.ref q0, .null, .null, .null, .int 0, .int 0, .int 0, .int 0])), (q0, .inl (cA, 20, .inl (fun _ => 0))), (q1, .inl (cA, 20, .inl (fun _ => 0)))] := hD
  refine W.widen (k := 2) (n := 40) (Nat.le_of_ble_eq_true rfl) (Nat.le_of_ble_eq_true rfl) ?_
  refine va_putF (D := (dC, dI)) (ci := 0) (v := .ref q1) (ty := .array .int) (C := RX0) (T := TX0) (N := 8) hx hb hts ix_uw0 tyX0 tyX0_ok nmX0 hown hK hP hD hS 0 rfl rfl 1 (by decide) (hts (.fieldLink RX0 15 "ColdGrid$CellEnergy" "toRight" "[I") (ix_wd_in (j := 108) (by decide +kernel))) (fun _ h9 => h9) rfl hin rfl (by decide +kernel) rfl rfl (Nat.le_of_ble_eq_true rfl) dX0_init_17 (fun H locs hP hD hS => ?_)
  have hP : va_P (dC, dI) vwCl [(h0, .inr (0, [.ref q0, .ref q1, .null, .null, .int 0, .int 0, .int 0, .int 0])), (q0, .inl (cA, 20, .inl (fun _ => 0))), (q1, .inl (cA, 20, .inl (fun _ => 0)))] H := hP
  have hD : va_D A [(h0, .inr (0, [.ref q0, .ref q1, .null, .null, .int 0, .int 0, .int 0, .int 0])), (q0, .inl (cA, 20, .inl (fun _ => 0))), (q1, .inl (cA, 20, .inl (fun _ => 0)))] := hD
  refine lv_aload_n hx hb dX0_init_20 rfl (lv_at hl 0 rfl) ?_
  refine lv_bipush (v := nI 20) hx hb dX0_init_21 (by decide) ?_
  refine ix_newa hx hb harr hK hP hD hS hA 20 (by decide) (Nat.le_of_ble_eq_true rfl) (Nat.le_of_ble_eq_true rfl) dX0_init_23 (fun q2 H hP hD hS => ?_)
  have hP : va_P (dC, dI) vwCl [(h0, .inr (0, [.ref q0, .ref q1, .null, .null, .int 0, .int 0, .int 0, .int 0])), (q0, .inl (cA, 20, .inl (fun _ => 0))), (q1, .inl (cA, 20, .inl (fun _ => 0))), (q2, .inl (cA, 20, .inl (fun _ => 0)))] H := hP
  have hD : va_D A [(h0, .inr (0, [.ref q0, .ref q1, .null, .null, .int 0, .int 0, .int 0, .int 0])), (q0, .inl (cA, 20, .inl (fun _ => 0))), (q1, .inl (cA, 20, .inl (fun _ => 0))), (q2, .inl (cA, 20, .inl (fun _ => 0)))] := hD
  refine W.widen (k := 3) (n := 60) (Nat.le_of_ble_eq_true rfl) (Nat.le_of_ble_eq_true rfl) ?_
  refine va_putF (D := (dC, dI)) (ci := 0) (v := .ref q2) (ty := .array .int) (C := RX0) (T := TX0) (N := 8) hx hb hts ix_uw0 tyX0 tyX0_ok nmX0 hown hK hP hD hS 0 rfl rfl 2 (by decide) (hts (.fieldLink RX0 18 "ColdGrid$CellEnergy" "toBelow" "[I") (ix_wd_in (j := 109) (by decide +kernel))) (fun _ h9 => h9) rfl hin rfl (by decide +kernel) rfl rfl (Nat.le_of_ble_eq_true rfl) dX0_init_25 (fun H locs hP hD hS => ?_)
  have hP : va_P (dC, dI) vwCl [(h0, .inr (0, [.ref q0, .ref q1, .ref q2, .null, .int 0, .int 0, .int 0, .int 0])), (q0, .inl (cA, 20, .inl (fun _ => 0))), (q1, .inl (cA, 20, .inl (fun _ => 0))), (q2, .inl (cA, 20, .inl (fun _ => 0)))] H := hP
  have hD : va_D A [(h0, .inr (0, [.ref q0, .ref q1, .ref q2, .null, .int 0, .int 0, .int 0, .int 0])), (q0, .inl (cA, 20, .inl (fun _ => 0))), (q1, .inl (cA, 20, .inl (fun _ => 0))), (q2, .inl (cA, 20, .inl (fun _ => 0)))] := hD
  refine lv_aload_n hx hb dX0_init_28 rfl (lv_at hl 0 rfl) ?_
  refine lv_bipush (v := nI 14) hx hb dX0_init_29 (by decide) ?_
  refine ix_newa hx hb harr hK hP hD hS hA 14 (by decide) (Nat.le_of_ble_eq_true rfl) (Nat.le_of_ble_eq_true rfl) dX0_init_31 (fun q3 H hP hD hS => ?_)
  have hP : va_P (dC, dI) vwCl [(h0, .inr (0, [.ref q0, .ref q1, .ref q2, .null, .int 0, .int 0, .int 0, .int 0])), (q0, .inl (cA, 20, .inl (fun _ => 0))), (q1, .inl (cA, 20, .inl (fun _ => 0))), (q2, .inl (cA, 20, .inl (fun _ => 0))), (q3, .inl (cA, 14, .inl (fun _ => 0)))] H := hP
  have hD : va_D A [(h0, .inr (0, [.ref q0, .ref q1, .ref q2, .null, .int 0, .int 0, .int 0, .int 0])), (q0, .inl (cA, 20, .inl (fun _ => 0))), (q1, .inl (cA, 20, .inl (fun _ => 0))), (q2, .inl (cA, 20, .inl (fun _ => 0))), (q3, .inl (cA, 14, .inl (fun _ => 0)))] := hD
  refine W.widen (k := 4) (n := 74) (Nat.le_of_ble_eq_true rfl) (Nat.le_of_ble_eq_true rfl) ?_
  refine va_putF (D := (dC, dI)) (ci := 0) (v := .ref q3) (ty := .array .int) (C := RX0) (T := TX0) (N := 8) hx hb hts ix_uw0 tyX0 tyX0_ok nmX0 hown hK hP hD hS 0 rfl rfl 3 (by decide) (hts (.fieldLink RX0 21 "ColdGrid$CellEnergy" "laid" "[I") (ix_wd_in (j := 110) (by decide +kernel))) (fun _ h9 => h9) rfl hin rfl (by decide +kernel) rfl rfl (Nat.le_of_ble_eq_true rfl) dX0_init_33 (fun H locs hP hD hS => ?_)
  have hP : va_P (dC, dI) vwCl [(h0, .inr (0, [.ref q0, .ref q1, .ref q2, .ref q3, .int 0, .int 0, .int 0, .int 0])), (q0, .inl (cA, 20, .inl (fun _ => 0))), (q1, .inl (cA, 20, .inl (fun _ => 0))), (q2, .inl (cA, 20, .inl (fun _ => 0))), (q3, .inl (cA, 14, .inl (fun _ => 0)))] H := hP
  have hD : va_D A [(h0, .inr (0, [.ref q0, .ref q1, .ref q2, .ref q3, .int 0, .int 0, .int 0, .int 0])), (q0, .inl (cA, 20, .inl (fun _ => 0))), (q1, .inl (cA, 20, .inl (fun _ => 0))), (q2, .inl (cA, 20, .inl (fun _ => 0))), (q3, .inl (cA, 14, .inl (fun _ => 0)))] := hD
  refine lv_aload_n hx hb dX0_init_36 rfl (lv_at hl 0 rfl) ?_
  refine lv_iconst (v := 0) hx hb dX0_init_37 (by decide) ?_
  refine va_put (D := (dC, dI)) (ci := 0) (v := .int 0) (ty := .int) (C := RX0) (T := TX0) (N := 8) hx hb hts ix_uw0 tyX0 tyX0_ok nmX0 hown hK hP hD hS 0 rfl rfl 4 (by decide) (hts (.fieldLink RX0 24 "ColdGrid$CellEnergy" "laidCells" "I") (ix_wd_in (j := 111) (by decide +kernel))) (fun _ h9 => h9) rfl (by decide +kernel) rfl rfl (Nat.le_of_ble_eq_true rfl) dX0_init_38 (fun H locs hP hD hS => ?_)
  have hP : va_P (dC, dI) vwCl [(h0, .inr (0, [.ref q0, .ref q1, .ref q2, .ref q3, .int 0, .int 0, .int 0, .int 0])), (q0, .inl (cA, 20, .inl (fun _ => 0))), (q1, .inl (cA, 20, .inl (fun _ => 0))), (q2, .inl (cA, 20, .inl (fun _ => 0))), (q3, .inl (cA, 14, .inl (fun _ => 0)))] H := hP
  have hD : va_D A [(h0, .inr (0, [.ref q0, .ref q1, .ref q2, .ref q3, .int 0, .int 0, .int 0, .int 0])), (q0, .inl (cA, 20, .inl (fun _ => 0))), (q1, .inl (cA, 20, .inl (fun _ => 0))), (q2, .inl (cA, 20, .inl (fun _ => 0))), (q3, .inl (cA, 14, .inl (fun _ => 0)))] := hD
  refine lv_aload_n hx hb dX0_init_41 rfl (lv_at hl 0 rfl) ?_
  refine lv_iconst (v := 0) hx hb dX0_init_42 (by decide) ?_
  refine va_put (D := (dC, dI)) (ci := 0) (v := .int 0) (ty := .int) (C := RX0) (T := TX0) (N := 8) hx hb hts ix_uw0 tyX0 tyX0_ok nmX0 hown hK hP hD hS 0 rfl rfl 5 (by decide) (hts (.fieldLink RX0 28 "ColdGrid$CellEnergy" "constant" "I") (ix_wd_in (j := 112) (by decide +kernel))) (fun _ h9 => h9) rfl (by decide +kernel) rfl rfl (Nat.le_of_ble_eq_true rfl) dX0_init_43 (fun H locs hP hD hS => ?_)
  have hP : va_P (dC, dI) vwCl [(h0, .inr (0, [.ref q0, .ref q1, .ref q2, .ref q3, .int 0, .int 0, .int 0, .int 0])), (q0, .inl (cA, 20, .inl (fun _ => 0))), (q1, .inl (cA, 20, .inl (fun _ => 0))), (q2, .inl (cA, 20, .inl (fun _ => 0))), (q3, .inl (cA, 14, .inl (fun _ => 0)))] H := hP
  have hD : va_D A [(h0, .inr (0, [.ref q0, .ref q1, .ref q2, .ref q3, .int 0, .int 0, .int 0, .int 0])), (q0, .inl (cA, 20, .inl (fun _ => 0))), (q1, .inl (cA, 20, .inl (fun _ => 0))), (q2, .inl (cA, 20, .inl (fun _ => 0))), (q3, .inl (cA, 14, .inl (fun _ => 0)))] := hD
  refine lv_aload_n hx hb dX0_init_46 rfl (lv_at hl 0 rfl) ?_
  refine lv_iconst (v := 0) hx hb dX0_init_47 (by decide) ?_
  refine va_put (D := (dC, dI)) (ci := 0) (v := .int 0) (ty := .int) (C := RX0) (T := TX0) (N := 8) hx hb hts ix_uw0 tyX0 tyX0_ok nmX0 hown hK hP hD hS 0 rfl rfl 6 (by decide) (hts (.fieldLink RX0 31 "ColdGrid$CellEnergy" "boundToRight" "I") (ix_wd_in (j := 113) (by decide +kernel))) (fun _ h9 => h9) rfl (by decide +kernel) rfl rfl (Nat.le_of_ble_eq_true rfl) dX0_init_48 (fun H locs hP hD hS => ?_)
  have hP : va_P (dC, dI) vwCl [(h0, .inr (0, [.ref q0, .ref q1, .ref q2, .ref q3, .int 0, .int 0, .int 0, .int 0])), (q0, .inl (cA, 20, .inl (fun _ => 0))), (q1, .inl (cA, 20, .inl (fun _ => 0))), (q2, .inl (cA, 20, .inl (fun _ => 0))), (q3, .inl (cA, 14, .inl (fun _ => 0)))] H := hP
  have hD : va_D A [(h0, .inr (0, [.ref q0, .ref q1, .ref q2, .ref q3, .int 0, .int 0, .int 0, .int 0])), (q0, .inl (cA, 20, .inl (fun _ => 0))), (q1, .inl (cA, 20, .inl (fun _ => 0))), (q2, .inl (cA, 20, .inl (fun _ => 0))), (q3, .inl (cA, 14, .inl (fun _ => 0)))] := hD
  refine lv_aload_n hx hb dX0_init_51 rfl (lv_at hl 0 rfl) ?_
  refine lv_iconst (v := 0) hx hb dX0_init_52 (by decide) ?_
  refine va_put (D := (dC, dI)) (ci := 0) (v := .int 0) (ty := .int) (C := RX0) (T := TX0) (N := 8) hx hb hts ix_uw0 tyX0 tyX0_ok nmX0 hown hK hP hD hS 0 rfl rfl 7 (by decide) (hts (.fieldLink RX0 34 "ColdGrid$CellEnergy" "boundToBelow" "I") (ix_wd_in (j := 114) (by decide +kernel))) (fun _ h9 => h9) rfl (by decide +kernel) rfl rfl (Nat.le_of_ble_eq_true rfl) dX0_init_53 (fun H locs hP hD hS => ?_)
  have hP : va_P (dC, dI) vwCl [(h0, .inr (0, [.ref q0, .ref q1, .ref q2, .ref q3, .int 0, .int 0, .int 0, .int 0])), (q0, .inl (cA, 20, .inl (fun _ => 0))), (q1, .inl (cA, 20, .inl (fun _ => 0))), (q2, .inl (cA, 20, .inl (fun _ => 0))), (q3, .inl (cA, 14, .inl (fun _ => 0)))] H := hP
  have hD : va_D A [(h0, .inr (0, [.ref q0, .ref q1, .ref q2, .ref q3, .int 0, .int 0, .int 0, .int 0])), (q0, .inl (cA, 20, .inl (fun _ => 0))), (q1, .inl (cA, 20, .inl (fun _ => 0))), (q2, .inl (cA, 20, .inl (fun _ => 0))), (q3, .inl (cA, 14, .inl (fun _ => 0)))] := hD
  exact W.vret hx hb hr (fun t ht hW => ⟨⟨fun i => [q0, q1, q2, q3].getD i 0, rfl, trivial, by rw [ht]; exact hP, va_K.moved hW.alike hK, hD⟩, hS.F ht⟩) hS.2.2 dX0_init_56
theorem dX5_init_0 : decode cX5_init 0 = .ok (.aload_n 0, 1) := by decide +kernel
theorem dX5_init_1 : decode cX5_init 1 = .ok (.invokespecial 1, 3) := by decide +kernel
theorem dX5_init_4 : decode cX5_init 4 = .ok (.aload_n 0, 1) := by decide +kernel
theorem dX5_init_5 : decode cX5_init 5 = .ok (.iconst 4, 1) := by decide +kernel
theorem dX5_init_6 : decode cX5_init 6 = .ok (.putfield 7, 3) := by decide +kernel
theorem dX5_init_9 : decode cX5_init 9 = .ok (.aload_n 0, 1) := by decide +kernel
theorem dX5_init_10 : decode cX5_init 10 = .ok (.bipush 64, 2) := by decide +kernel
theorem dX5_init_12 : decode cX5_init 12 = .ok (.newarray .int, 2) := by decide +kernel
theorem dX5_init_14 : decode cX5_init 14 = .ok (.putfield 13, 3) := by decide +kernel
theorem dX5_init_17 : decode cX5_init 17 = .ok (.aload_n 0, 1) := by decide +kernel
theorem dX5_init_18 : decode cX5_init 18 = .ok (.bipush 6, 2) := by decide +kernel
theorem dX5_init_20 : decode cX5_init 20 = .ok (.newarray .int, 2) := by decide +kernel
theorem dX5_init_22 : decode cX5_init 22 = .ok (.putfield 17, 3) := by decide +kernel
theorem dX5_init_25 : decode cX5_init 25 = .ok (.aload_n 0, 1) := by decide +kernel
theorem dX5_init_26 : decode cX5_init 26 = .ok (.bipush 6, 2) := by decide +kernel
theorem dX5_init_28 : decode cX5_init 28 = .ok (.newarray .int, 2) := by decide +kernel
theorem dX5_init_30 : decode cX5_init 30 = .ok (.putfield 20, 3) := by decide +kernel
theorem dX5_init_33 : decode cX5_init 33 = .ok (.aload_n 0, 1) := by decide +kernel
theorem dX5_init_34 : decode cX5_init 34 = .ok (.bipush 8, 2) := by decide +kernel
theorem dX5_init_36 : decode cX5_init 36 = .ok (.newarray .int, 2) := by decide +kernel
theorem dX5_init_38 : decode cX5_init 38 = .ok (.putfield 23, 3) := by decide +kernel
theorem dX5_init_41 : decode cX5_init 41 = .ok (.aload_n 0, 1) := by decide +kernel
theorem dX5_init_42 : decode cX5_init 42 = .ok (.bipush 14, 2) := by decide +kernel
theorem dX5_init_44 : decode cX5_init 44 = .ok (.newarray .int, 2) := by decide +kernel
theorem dX5_init_46 : decode cX5_init 46 = .ok (.putfield 26, 3) := by decide +kernel
theorem dX5_init_49 : decode cX5_init 49 = .ok (.aload_n 0, 1) := by decide +kernel
theorem dX5_init_50 : decode cX5_init 50 = .ok (.bipush 64, 2) := by decide +kernel
theorem dX5_init_52 : decode cX5_init 52 = .ok (.newarray .int, 2) := by decide +kernel
theorem dX5_init_54 : decode cX5_init 54 = .ok (.putfield 29, 3) := by decide +kernel
theorem dX5_init_57 : decode cX5_init 57 = .ok (.aload_n 0, 1) := by decide +kernel
theorem dX5_init_58 : decode cX5_init 58 = .ok (.bipush 64, 2) := by decide +kernel
theorem dX5_init_60 : decode cX5_init 60 = .ok (.newarray .int, 2) := by decide +kernel
theorem dX5_init_62 : decode cX5_init 62 = .ok (.putfield 32, 3) := by decide +kernel
theorem dX5_init_65 : decode cX5_init 65 = .ok (.aload_n 0, 1) := by decide +kernel
theorem dX5_init_66 : decode cX5_init 66 = .ok (.sipush 256, 3) := by decide +kernel
theorem dX5_init_69 : decode cX5_init 69 = .ok (.newarray .int, 2) := by decide +kernel
theorem dX5_init_71 : decode cX5_init 71 = .ok (.putfield 35, 3) := by decide +kernel
theorem dX5_init_74 : decode cX5_init 74 = .ok (.return_, 1) := by decide +kernel
set_option maxHeartbeats 4000000 in
set_option maxRecDepth 100000 in
theorem n_X5 (l : Launch) (dC : Nat → ClassId) (dI : Nat → Nat → Nat) (cA : ClassId) (h0 sz : Nat) : Met l yX5_init (.code yX5_init cX5_init 1 none :: ix_gw) ({ frames := 1, cells := 8, slots := 482, locals := 12 }) (va_Pc [.ref h0] (fun U => U.heap.size = sz ∧ va_P (dC, dI) vwCl [(h0, .inr (5, [.int 0, .int 0, .null, .int 0, .null, .null, .int 0, .null, .int 0, .int 0, .int 0, .null, .null, .null, .null]))] U.heap ∧ va_K (dC, dI) vwCl [(cA, .int)] U ∧ va_D (fun _ => True) [(h0, .inr (5, [.int 0, .int 0, .null, .int 0, .null, .null, .int 0, .null, .int 0, .int 0, .int 0, .null, .null, .null, .null]))])) (va_Qv (fun ad : Nat → Nat => ad 0 = h0) (fun ad t => va_P (dC, dI) vwCl (ix_mw ad cA (mw 4 0 (fun _ => 0) 0 (fun _ => 0) (fun _ => 0) 0 (fun _ => 0) 0 0 0 (fun _ => 0) (fun _ => 0) (fun _ => 0) (fun _ => 0))) t.heap ∧ va_K (dC, dI) vwCl [(cA, .int)] t ∧ va_D (va_A [(h0, .inr (5, [.int 0, .int 0, .null, .int 0, .null, .null, .int 0, .null, .int 0, .int 0, .int 0, .null, .null, .null, .null]))] sz) (ix_mw ad cA (mw 4 0 (fun _ => 0) 0 (fun _ => 0) (fun _ => 0) 0 (fun _ => 0) 0 0 0 (fun _ => 0) (fun _ => 0) (fun _ => 0) (fun _ => 0)))) (va_A [(h0, .inr (5, [.int 0, .int 0, .null, .int 0, .null, .null, .int 0, .null, .int 0, .int 0, .int 0, .null, .null, .null, .null]))] sz)) 8 482 (va_A [(h0, .inr (5, [.int 0, .int 0, .null, .int 0, .null, .null, .int 0, .null, .int 0, .int 0, .int 0, .null, .null, .null, .null]))] sz) := by
  refine ix_ofW (cc := cX5_init) (maxL := 1) (ret := none) (by decide +kernel) rfl ?_
  intro p e s m args below meth c s₁ B hml hv
  obtain ⟨rfl, hsz, hP, hK, hD0⟩ := hv
  have hx := B.exec
  have hb := B.bytes
  have hr := B.returns
  have hts0 := atoms_spec (ws := .code yX5_init cX5_init 1 none :: ix_gw) B.pre
  have hts : ∀ w ∈ ix_gw, w.before ([Value.ref h0] : List Value).toArray s = true := fun w hw => hts0 w (List.mem_cons_of_mem _ hw)
  have hown : s.vm.findClass RX5 = some m.cls := findClass_of_methodNamed B.named
  have hlocks := B.notSynchronized
  have hin : meth.name = "<init>" := (name_of_methodNamed B.named B.method).1
  have harr : (Cond.arrayClass .int).before ([Value.ref h0] : List Value).toArray s = true := (hts (.arrayClass .int) (ix_wd_in (j := 71) (by decide +kernel)))
  subst hsz
  have hD := hD0.self (sz := s.heap.size)
  generalize hAe : va_A [(h0, .inr (5, [.int 0, .int 0, .null, .int 0, .null, .null, .int 0, .null, .int 0, .int 0, .int 0, .null, .null, .null, .null]))] s.heap.size = A at hD ⊢
  have hA : ∀ q : Nat, s.heap.size ≤ q → A q := fun q h => by rw [← hAe]; exact Or.inr h
  have hS : va_S A s.heap s.heap [] := va_S.rf
  have hl := lv_entry ([.ref h0]) (n := 1) (Nat.le_of_ble_eq_true rfl)
  rw [lg_entry_eq]
  generalize (lg_sl ([.ref h0]) ++ List.replicate (1 - (lg_sl ([.ref h0])).length) Slot.unset).toArray = ls at hl ⊢
  have hl : lv_has ls 1 [(0, .ref h0)] := hl
  refine lv_aload_n hx hb dX5_init_0 rfl (lv_at hl 0 rfl) ?_
  refine W.objInit hx hb hown (hts (.methodLink RX5 1 objectInit) (ix_wd_in (j := 532) (by decide +kernel))) (hts (.instanceMethod objectInit) (ix_wd_in (j := 50) (by decide +kernel))) (hts (.code objectInit ⟨#[0xb1]⟩ 1 none) (ix_wd_in (j := 51) (by decide +kernel))) rfl (by rw [hml]; exact hl.1) rfl dX5_init_1 (Nat.le_of_ble_eq_true rfl) (Nat.le_of_ble_eq_true rfl) ?_
  refine W.eq (g2 := F0 m 4 ls []) rfl ?_
  refine lv_aload_n hx hb dX5_init_4 rfl (lv_at hl 0 rfl) ?_
  refine lv_iconst (v := 4) hx hb dX5_init_5 (by decide) ?_
  refine va_put (D := (dC, dI)) (ci := 5) (v := .int 4) (ty := .int) (C := RX5) (T := TX5) (N := 15) hx hb hts ix_uw5 tyX5 tyX5_ok nmX5 hown hK hP hD hS 0 rfl rfl 0 (by decide) (hts (.fieldLink RX5 7 "ColdGridModel" "n" "I") (ix_wd_in (j := 533) (by decide +kernel))) (fun _ h9 => h9) rfl (by decide +kernel) rfl rfl (Nat.le_of_ble_eq_true rfl) dX5_init_6 (fun H locs hP hD hS => ?_)
  have hP : va_P (dC, dI) vwCl [(h0, .inr (5, [.int 4, .int 0, .null, .int 0, .null, .null, .int 0, .null, .int 0, .int 0, .int 0, .null, .null, .null, .null]))] H := hP
  have hD : va_D A [(h0, .inr (5, [.int 4, .int 0, .null, .int 0, .null, .null, .int 0, .null, .int 0, .int 0, .int 0, .null, .null, .null, .null]))] := hD
  refine lv_aload_n hx hb dX5_init_9 rfl (lv_at hl 0 rfl) ?_
  refine lv_bipush (v := nI 64) hx hb dX5_init_10 (by decide) ?_
  refine ix_newa hx hb harr hK hP hD hS hA 64 (by decide) (Nat.le_of_ble_eq_true rfl) (Nat.le_of_ble_eq_true rfl) dX5_init_12 (fun q0 H hP hD hS => ?_)
  have hP : va_P (dC, dI) vwCl [(h0, .inr (5, [.int 4, .int 0, .null, .int 0, .null, .null, .int 0, .null, .int 0, .int 0, .int 0, .null, .null, .null, .null])), (q0, .inl (cA, 64, .inl (fun _ => 0)))] H := hP
  have hD : va_D A [(h0, .inr (5, [.int 4, .int 0, .null, .int 0, .null, .null, .int 0, .null, .int 0, .int 0, .int 0, .null, .null, .null, .null])), (q0, .inl (cA, 64, .inl (fun _ => 0)))] := hD
  refine W.widen (k := 1) (n := 64) (Nat.le_of_ble_eq_true rfl) (Nat.le_of_ble_eq_true rfl) ?_
  refine va_putF (D := (dC, dI)) (ci := 5) (v := .ref q0) (ty := .array .int) (C := RX5) (T := TX5) (N := 15) hx hb hts ix_uw5 tyX5 tyX5_ok nmX5 hown hK hP hD hS 0 rfl rfl 2 (by decide) (hts (.fieldLink RX5 13 "ColdGridModel" "weights" "[I") (ix_wd_in (j := 535) (by decide +kernel))) (fun _ h9 => h9) rfl hin rfl (by decide +kernel) rfl rfl (Nat.le_of_ble_eq_true rfl) dX5_init_14 (fun H locs hP hD hS => ?_)
  have hP : va_P (dC, dI) vwCl [(h0, .inr (5, [.int 4, .int 0, .ref q0, .int 0, .null, .null, .int 0, .null, .int 0, .int 0, .int 0, .null, .null, .null, .null])), (q0, .inl (cA, 64, .inl (fun _ => 0)))] H := hP
  have hD : va_D A [(h0, .inr (5, [.int 4, .int 0, .ref q0, .int 0, .null, .null, .int 0, .null, .int 0, .int 0, .int 0, .null, .null, .null, .null])), (q0, .inl (cA, 64, .inl (fun _ => 0)))] := hD
  refine lv_aload_n hx hb dX5_init_17 rfl (lv_at hl 0 rfl) ?_
  refine lv_bipush (v := nI 6) hx hb dX5_init_18 (by decide) ?_
  refine ix_newa hx hb harr hK hP hD hS hA 6 (by decide) (Nat.le_of_ble_eq_true rfl) (Nat.le_of_ble_eq_true rfl) dX5_init_20 (fun q1 H hP hD hS => ?_)
  have hP : va_P (dC, dI) vwCl [(h0, .inr (5, [.int 4, .int 0, .ref q0, .int 0, .null, .null, .int 0, .null, .int 0, .int 0, .int 0, .null, .null, .null, .null])), (q0, .inl (cA, 64, .inl (fun _ => 0))), (q1, .inl (cA, 6, .inl (fun _ => 0)))] H := hP
  have hD : va_D A [(h0, .inr (5, [.int 4, .int 0, .ref q0, .int 0, .null, .null, .int 0, .null, .int 0, .int 0, .int 0, .null, .null, .null, .null])), (q0, .inl (cA, 64, .inl (fun _ => 0))), (q1, .inl (cA, 6, .inl (fun _ => 0)))] := hD
  refine W.widen (k := 2) (n := 70) (Nat.le_of_ble_eq_true rfl) (Nat.le_of_ble_eq_true rfl) ?_
  refine va_putF (D := (dC, dI)) (ci := 5) (v := .ref q1) (ty := .array .int) (C := RX5) (T := TX5) (N := 15) hx hb hts ix_uw5 tyX5 tyX5_ok nmX5 hown hK hP hD hS 0 rfl rfl 4 (by decide) (hts (.fieldLink RX5 17 "ColdGridModel" "lawSet" "[I") (ix_wd_in (j := 537) (by decide +kernel))) (fun _ h9 => h9) rfl hin rfl (by decide +kernel) rfl rfl (Nat.le_of_ble_eq_true rfl) dX5_init_22 (fun H locs hP hD hS => ?_)
  have hP : va_P (dC, dI) vwCl [(h0, .inr (5, [.int 4, .int 0, .ref q0, .int 0, .ref q1, .null, .int 0, .null, .int 0, .int 0, .int 0, .null, .null, .null, .null])), (q0, .inl (cA, 64, .inl (fun _ => 0))), (q1, .inl (cA, 6, .inl (fun _ => 0)))] H := hP
  have hD : va_D A [(h0, .inr (5, [.int 4, .int 0, .ref q0, .int 0, .ref q1, .null, .int 0, .null, .int 0, .int 0, .int 0, .null, .null, .null, .null])), (q0, .inl (cA, 64, .inl (fun _ => 0))), (q1, .inl (cA, 6, .inl (fun _ => 0)))] := hD
  refine lv_aload_n hx hb dX5_init_25 rfl (lv_at hl 0 rfl) ?_
  refine lv_bipush (v := nI 6) hx hb dX5_init_26 (by decide) ?_
  refine ix_newa hx hb harr hK hP hD hS hA 6 (by decide) (Nat.le_of_ble_eq_true rfl) (Nat.le_of_ble_eq_true rfl) dX5_init_28 (fun q2 H hP hD hS => ?_)
  have hP : va_P (dC, dI) vwCl [(h0, .inr (5, [.int 4, .int 0, .ref q0, .int 0, .ref q1, .null, .int 0, .null, .int 0, .int 0, .int 0, .null, .null, .null, .null])), (q0, .inl (cA, 64, .inl (fun _ => 0))), (q1, .inl (cA, 6, .inl (fun _ => 0))), (q2, .inl (cA, 6, .inl (fun _ => 0)))] H := hP
  have hD : va_D A [(h0, .inr (5, [.int 4, .int 0, .ref q0, .int 0, .ref q1, .null, .int 0, .null, .int 0, .int 0, .int 0, .null, .null, .null, .null])), (q0, .inl (cA, 64, .inl (fun _ => 0))), (q1, .inl (cA, 6, .inl (fun _ => 0))), (q2, .inl (cA, 6, .inl (fun _ => 0)))] := hD
  refine W.widen (k := 3) (n := 76) (Nat.le_of_ble_eq_true rfl) (Nat.le_of_ble_eq_true rfl) ?_
  refine va_putF (D := (dC, dI)) (ci := 5) (v := .ref q2) (ty := .array .int) (C := RX5) (T := TX5) (N := 15) hx hb hts ix_uw5 tyX5 tyX5_ok nmX5 hown hK hP hD hS 0 rfl rfl 5 (by decide) (hts (.fieldLink RX5 20 "ColdGridModel" "lawMany" "[I") (ix_wd_in (j := 538) (by decide +kernel))) (fun _ h9 => h9) rfl hin rfl (by decide +kernel) rfl rfl (Nat.le_of_ble_eq_true rfl) dX5_init_30 (fun H locs hP hD hS => ?_)
  have hP : va_P (dC, dI) vwCl [(h0, .inr (5, [.int 4, .int 0, .ref q0, .int 0, .ref q1, .ref q2, .int 0, .null, .int 0, .int 0, .int 0, .null, .null, .null, .null])), (q0, .inl (cA, 64, .inl (fun _ => 0))), (q1, .inl (cA, 6, .inl (fun _ => 0))), (q2, .inl (cA, 6, .inl (fun _ => 0)))] H := hP
  have hD : va_D A [(h0, .inr (5, [.int 4, .int 0, .ref q0, .int 0, .ref q1, .ref q2, .int 0, .null, .int 0, .int 0, .int 0, .null, .null, .null, .null])), (q0, .inl (cA, 64, .inl (fun _ => 0))), (q1, .inl (cA, 6, .inl (fun _ => 0))), (q2, .inl (cA, 6, .inl (fun _ => 0)))] := hD
  refine lv_aload_n hx hb dX5_init_33 rfl (lv_at hl 0 rfl) ?_
  refine lv_bipush (v := nI 8) hx hb dX5_init_34 (by decide) ?_
  refine ix_newa hx hb harr hK hP hD hS hA 8 (by decide) (Nat.le_of_ble_eq_true rfl) (Nat.le_of_ble_eq_true rfl) dX5_init_36 (fun q3 H hP hD hS => ?_)
  have hP : va_P (dC, dI) vwCl [(h0, .inr (5, [.int 4, .int 0, .ref q0, .int 0, .ref q1, .ref q2, .int 0, .null, .int 0, .int 0, .int 0, .null, .null, .null, .null])), (q0, .inl (cA, 64, .inl (fun _ => 0))), (q1, .inl (cA, 6, .inl (fun _ => 0))), (q2, .inl (cA, 6, .inl (fun _ => 0))), (q3, .inl (cA, 8, .inl (fun _ => 0)))] H := hP
  have hD : va_D A [(h0, .inr (5, [.int 4, .int 0, .ref q0, .int 0, .ref q1, .ref q2, .int 0, .null, .int 0, .int 0, .int 0, .null, .null, .null, .null])), (q0, .inl (cA, 64, .inl (fun _ => 0))), (q1, .inl (cA, 6, .inl (fun _ => 0))), (q2, .inl (cA, 6, .inl (fun _ => 0))), (q3, .inl (cA, 8, .inl (fun _ => 0)))] := hD
  refine W.widen (k := 4) (n := 84) (Nat.le_of_ble_eq_true rfl) (Nat.le_of_ble_eq_true rfl) ?_
  refine va_putF (D := (dC, dI)) (ci := 5) (v := .ref q3) (ty := .array .int) (C := RX5) (T := TX5) (N := 15) hx hb hts ix_uw5 tyX5 tyX5_ok nmX5 hown hK hP hD hS 0 rfl rfl 7 (by decide) (hts (.fieldLink RX5 23 "ColdGridModel" "chains" "[I") (ix_wd_in (j := 540) (by decide +kernel))) (fun _ h9 => h9) rfl hin rfl (by decide +kernel) rfl rfl (Nat.le_of_ble_eq_true rfl) dX5_init_38 (fun H locs hP hD hS => ?_)
  have hP : va_P (dC, dI) vwCl [(h0, .inr (5, [.int 4, .int 0, .ref q0, .int 0, .ref q1, .ref q2, .int 0, .ref q3, .int 0, .int 0, .int 0, .null, .null, .null, .null])), (q0, .inl (cA, 64, .inl (fun _ => 0))), (q1, .inl (cA, 6, .inl (fun _ => 0))), (q2, .inl (cA, 6, .inl (fun _ => 0))), (q3, .inl (cA, 8, .inl (fun _ => 0)))] H := hP
  have hD : va_D A [(h0, .inr (5, [.int 4, .int 0, .ref q0, .int 0, .ref q1, .ref q2, .int 0, .ref q3, .int 0, .int 0, .int 0, .null, .null, .null, .null])), (q0, .inl (cA, 64, .inl (fun _ => 0))), (q1, .inl (cA, 6, .inl (fun _ => 0))), (q2, .inl (cA, 6, .inl (fun _ => 0))), (q3, .inl (cA, 8, .inl (fun _ => 0)))] := hD
  refine lv_aload_n hx hb dX5_init_41 rfl (lv_at hl 0 rfl) ?_
  refine lv_bipush (v := nI 14) hx hb dX5_init_42 (by decide) ?_
  refine ix_newa hx hb harr hK hP hD hS hA 14 (by decide) (Nat.le_of_ble_eq_true rfl) (Nat.le_of_ble_eq_true rfl) dX5_init_44 (fun q4 H hP hD hS => ?_)
  have hP : va_P (dC, dI) vwCl [(h0, .inr (5, [.int 4, .int 0, .ref q0, .int 0, .ref q1, .ref q2, .int 0, .ref q3, .int 0, .int 0, .int 0, .null, .null, .null, .null])), (q0, .inl (cA, 64, .inl (fun _ => 0))), (q1, .inl (cA, 6, .inl (fun _ => 0))), (q2, .inl (cA, 6, .inl (fun _ => 0))), (q3, .inl (cA, 8, .inl (fun _ => 0))), (q4, .inl (cA, 14, .inl (fun _ => 0)))] H := hP
  have hD : va_D A [(h0, .inr (5, [.int 4, .int 0, .ref q0, .int 0, .ref q1, .ref q2, .int 0, .ref q3, .int 0, .int 0, .int 0, .null, .null, .null, .null])), (q0, .inl (cA, 64, .inl (fun _ => 0))), (q1, .inl (cA, 6, .inl (fun _ => 0))), (q2, .inl (cA, 6, .inl (fun _ => 0))), (q3, .inl (cA, 8, .inl (fun _ => 0))), (q4, .inl (cA, 14, .inl (fun _ => 0)))] := hD
  refine W.widen (k := 5) (n := 98) (Nat.le_of_ble_eq_true rfl) (Nat.le_of_ble_eq_true rfl) ?_
  refine va_putF (D := (dC, dI)) (ci := 5) (v := .ref q4) (ty := .array .int) (C := RX5) (T := TX5) (N := 15) hx hb hts ix_uw5 tyX5 tyX5_ok nmX5 hown hK hP hD hS 0 rfl rfl 11 (by decide) (hts (.fieldLink RX5 26 "ColdGridModel" "cells" "[I") (ix_wd_in (j := 544) (by decide +kernel))) (fun _ h9 => h9) rfl hin rfl (by decide +kernel) rfl rfl (Nat.le_of_ble_eq_true rfl) dX5_init_46 (fun H locs hP hD hS => ?_)
  have hP : va_P (dC, dI) vwCl [(h0, .inr (5, [.int 4, .int 0, .ref q0, .int 0, .ref q1, .ref q2, .int 0, .ref q3, .int 0, .int 0, .int 0, .ref q4, .null, .null, .null])), (q0, .inl (cA, 64, .inl (fun _ => 0))), (q1, .inl (cA, 6, .inl (fun _ => 0))), (q2, .inl (cA, 6, .inl (fun _ => 0))), (q3, .inl (cA, 8, .inl (fun _ => 0))), (q4, .inl (cA, 14, .inl (fun _ => 0)))] H := hP
  have hD : va_D A [(h0, .inr (5, [.int 4, .int 0, .ref q0, .int 0, .ref q1, .ref q2, .int 0, .ref q3, .int 0, .int 0, .int 0, .ref q4, .null, .null, .null])), (q0, .inl (cA, 64, .inl (fun _ => 0))), (q1, .inl (cA, 6, .inl (fun _ => 0))), (q2, .inl (cA, 6, .inl (fun _ => 0))), (q3, .inl (cA, 8, .inl (fun _ => 0))), (q4, .inl (cA, 14, .inl (fun _ => 0)))] := hD
  refine lv_aload_n hx hb dX5_init_49 rfl (lv_at hl 0 rfl) ?_
  refine lv_bipush (v := nI 64) hx hb dX5_init_50 (by decide) ?_
  refine ix_newa hx hb harr hK hP hD hS hA 64 (by decide) (Nat.le_of_ble_eq_true rfl) (Nat.le_of_ble_eq_true rfl) dX5_init_52 (fun q5 H hP hD hS => ?_)
  have hP : va_P (dC, dI) vwCl [(h0, .inr (5, [.int 4, .int 0, .ref q0, .int 0, .ref q1, .ref q2, .int 0, .ref q3, .int 0, .int 0, .int 0, .ref q4, .null, .null, .null])), (q0, .inl (cA, 64, .inl (fun _ => 0))), (q1, .inl (cA, 6, .inl (fun _ => 0))), (q2, .inl (cA, 6, .inl (fun _ => 0))), (q3, .inl (cA, 8, .inl (fun _ => 0))), (q4, .inl (cA, 14, .inl (fun _ => 0))), (q5, .inl (cA, 64, .inl (fun _ => 0)))] H := hP
  have hD : va_D A [(h0, .inr (5, [.int 4, .int 0, .ref q0, .int 0, .ref q1, .ref q2, .int 0, .ref q3, .int 0, .int 0, .int 0, .ref q4, .null, .null, .null])), (q0, .inl (cA, 64, .inl (fun _ => 0))), (q1, .inl (cA, 6, .inl (fun _ => 0))), (q2, .inl (cA, 6, .inl (fun _ => 0))), (q3, .inl (cA, 8, .inl (fun _ => 0))), (q4, .inl (cA, 14, .inl (fun _ => 0))), (q5, .inl (cA, 64, .inl (fun _ => 0)))] := hD
  refine W.widen (k := 6) (n := 162) (Nat.le_of_ble_eq_true rfl) (Nat.le_of_ble_eq_true rfl) ?_
  refine va_putF (D := (dC, dI)) (ci := 5) (v := .ref q5) (ty := .array .int) (C := RX5) (T := TX5) (N := 15) hx hb hts ix_uw5 tyX5 tyX5_ok nmX5 hown hK hP hD hS 0 rfl rfl 12 (by decide) (hts (.fieldLink RX5 29 "ColdGridModel" "links" "[I") (ix_wd_in (j := 545) (by decide +kernel))) (fun _ h9 => h9) rfl hin rfl (by decide +kernel) rfl rfl (Nat.le_of_ble_eq_true rfl) dX5_init_54 (fun H locs hP hD hS => ?_)
  have hP : va_P (dC, dI) vwCl [(h0, .inr (5, [.int 4, .int 0, .ref q0, .int 0, .ref q1, .ref q2, .int 0, .ref q3, .int 0, .int 0, .int 0, .ref q4, .ref q5, .null, .null])), (q0, .inl (cA, 64, .inl (fun _ => 0))), (q1, .inl (cA, 6, .inl (fun _ => 0))), (q2, .inl (cA, 6, .inl (fun _ => 0))), (q3, .inl (cA, 8, .inl (fun _ => 0))), (q4, .inl (cA, 14, .inl (fun _ => 0))), (q5, .inl (cA, 64, .inl (fun _ => 0)))] H := hP
  have hD : va_D A [(h0, .inr (5, [.int 4, .int 0, .ref q0, .int 0, .ref q1, .ref q2, .int 0, .ref q3, .int 0, .int 0, .int 0, .ref q4, .ref q5, .null, .null])), (q0, .inl (cA, 64, .inl (fun _ => 0))), (q1, .inl (cA, 6, .inl (fun _ => 0))), (q2, .inl (cA, 6, .inl (fun _ => 0))), (q3, .inl (cA, 8, .inl (fun _ => 0))), (q4, .inl (cA, 14, .inl (fun _ => 0))), (q5, .inl (cA, 64, .inl (fun _ => 0)))] := hD
  refine lv_aload_n hx hb dX5_init_57 rfl (lv_at hl 0 rfl) ?_
  refine lv_bipush (v := nI 64) hx hb dX5_init_58 (by decide) ?_
  refine ix_newa hx hb harr hK hP hD hS hA 64 (by decide) (Nat.le_of_ble_eq_true rfl) (Nat.le_of_ble_eq_true rfl) dX5_init_60 (fun q6 H hP hD hS => ?_)
  have hP : va_P (dC, dI) vwCl [(h0, .inr (5, [.int 4, .int 0, .ref q0, .int 0, .ref q1, .ref q2, .int 0, .ref q3, .int 0, .int 0, .int 0, .ref q4, .ref q5, .null, .null])), (q0, .inl (cA, 64, .inl (fun _ => 0))), (q1, .inl (cA, 6, .inl (fun _ => 0))), (q2, .inl (cA, 6, .inl (fun _ => 0))), (q3, .inl (cA, 8, .inl (fun _ => 0))), (q4, .inl (cA, 14, .inl (fun _ => 0))), (q5, .inl (cA, 64, .inl (fun _ => 0))), (q6, .inl (cA, 64, .inl (fun _ => 0)))] H := hP
  have hD : va_D A [(h0, .inr (5, [.int 4, .int 0, .ref q0, .int 0, .ref q1, .ref q2, .int 0, .ref q3, .int 0, .int 0, .int 0, .ref q4, .ref q5, .null, .null])), (q0, .inl (cA, 64, .inl (fun _ => 0))), (q1, .inl (cA, 6, .inl (fun _ => 0))), (q2, .inl (cA, 6, .inl (fun _ => 0))), (q3, .inl (cA, 8, .inl (fun _ => 0))), (q4, .inl (cA, 14, .inl (fun _ => 0))), (q5, .inl (cA, 64, .inl (fun _ => 0))), (q6, .inl (cA, 64, .inl (fun _ => 0)))] := hD
  refine W.widen (k := 7) (n := 226) (Nat.le_of_ble_eq_true rfl) (Nat.le_of_ble_eq_true rfl) ?_
  refine va_putF (D := (dC, dI)) (ci := 5) (v := .ref q6) (ty := .array .int) (C := RX5) (T := TX5) (N := 15) hx hb hts ix_uw5 tyX5 tyX5_ok nmX5 hown hK hP hD hS 0 rfl rfl 13 (by decide) (hts (.fieldLink RX5 32 "ColdGridModel" "kept" "[I") (ix_wd_in (j := 546) (by decide +kernel))) (fun _ h9 => h9) rfl hin rfl (by decide +kernel) rfl rfl (Nat.le_of_ble_eq_true rfl) dX5_init_62 (fun H locs hP hD hS => ?_)
  have hP : va_P (dC, dI) vwCl [(h0, .inr (5, [.int 4, .int 0, .ref q0, .int 0, .ref q1, .ref q2, .int 0, .ref q3, .int 0, .int 0, .int 0, .ref q4, .ref q5, .ref q6, .null])), (q0, .inl (cA, 64, .inl (fun _ => 0))), (q1, .inl (cA, 6, .inl (fun _ => 0))), (q2, .inl (cA, 6, .inl (fun _ => 0))), (q3, .inl (cA, 8, .inl (fun _ => 0))), (q4, .inl (cA, 14, .inl (fun _ => 0))), (q5, .inl (cA, 64, .inl (fun _ => 0))), (q6, .inl (cA, 64, .inl (fun _ => 0)))] H := hP
  have hD : va_D A [(h0, .inr (5, [.int 4, .int 0, .ref q0, .int 0, .ref q1, .ref q2, .int 0, .ref q3, .int 0, .int 0, .int 0, .ref q4, .ref q5, .ref q6, .null])), (q0, .inl (cA, 64, .inl (fun _ => 0))), (q1, .inl (cA, 6, .inl (fun _ => 0))), (q2, .inl (cA, 6, .inl (fun _ => 0))), (q3, .inl (cA, 8, .inl (fun _ => 0))), (q4, .inl (cA, 14, .inl (fun _ => 0))), (q5, .inl (cA, 64, .inl (fun _ => 0))), (q6, .inl (cA, 64, .inl (fun _ => 0)))] := hD
  refine lv_aload_n hx hb dX5_init_65 rfl (lv_at hl 0 rfl) ?_
  refine lv_sipush (v := nI 256) hx hb dX5_init_66 (by decide) ?_
  refine ix_newa hx hb harr hK hP hD hS hA 256 (by decide) (Nat.le_of_ble_eq_true rfl) (Nat.le_of_ble_eq_true rfl) dX5_init_69 (fun q7 H hP hD hS => ?_)
  have hP : va_P (dC, dI) vwCl [(h0, .inr (5, [.int 4, .int 0, .ref q0, .int 0, .ref q1, .ref q2, .int 0, .ref q3, .int 0, .int 0, .int 0, .ref q4, .ref q5, .ref q6, .null])), (q0, .inl (cA, 64, .inl (fun _ => 0))), (q1, .inl (cA, 6, .inl (fun _ => 0))), (q2, .inl (cA, 6, .inl (fun _ => 0))), (q3, .inl (cA, 8, .inl (fun _ => 0))), (q4, .inl (cA, 14, .inl (fun _ => 0))), (q5, .inl (cA, 64, .inl (fun _ => 0))), (q6, .inl (cA, 64, .inl (fun _ => 0))), (q7, .inl (cA, 256, .inl (fun _ => 0)))] H := hP
  have hD : va_D A [(h0, .inr (5, [.int 4, .int 0, .ref q0, .int 0, .ref q1, .ref q2, .int 0, .ref q3, .int 0, .int 0, .int 0, .ref q4, .ref q5, .ref q6, .null])), (q0, .inl (cA, 64, .inl (fun _ => 0))), (q1, .inl (cA, 6, .inl (fun _ => 0))), (q2, .inl (cA, 6, .inl (fun _ => 0))), (q3, .inl (cA, 8, .inl (fun _ => 0))), (q4, .inl (cA, 14, .inl (fun _ => 0))), (q5, .inl (cA, 64, .inl (fun _ => 0))), (q6, .inl (cA, 64, .inl (fun _ => 0))), (q7, .inl (cA, 256, .inl (fun _ => 0)))] := hD
  refine W.widen (k := 8) (n := 482) (Nat.le_of_ble_eq_true rfl) (Nat.le_of_ble_eq_true rfl) ?_
  refine va_putF (D := (dC, dI)) (ci := 5) (v := .ref q7) (ty := .array .int) (C := RX5) (T := TX5) (N := 15) hx hb hts ix_uw5 tyX5 tyX5_ok nmX5 hown hK hP hD hS 0 rfl rfl 14 (by decide) (hts (.fieldLink RX5 35 "ColdGridModel" "before" "[I") (ix_wd_in (j := 547) (by decide +kernel))) (fun _ h9 => h9) rfl hin rfl (by decide +kernel) rfl rfl (Nat.le_of_ble_eq_true rfl) dX5_init_71 (fun H locs hP hD hS => ?_)
  have hP : va_P (dC, dI) vwCl [(h0, .inr (5, [.int 4, .int 0, .ref q0, .int 0, .ref q1, .ref q2, .int 0, .ref q3, .int 0, .int 0, .int 0, .ref q4, .ref q5, .ref q6, .ref q7])), (q0, .inl (cA, 64, .inl (fun _ => 0))), (q1, .inl (cA, 6, .inl (fun _ => 0))), (q2, .inl (cA, 6, .inl (fun _ => 0))), (q3, .inl (cA, 8, .inl (fun _ => 0))), (q4, .inl (cA, 14, .inl (fun _ => 0))), (q5, .inl (cA, 64, .inl (fun _ => 0))), (q6, .inl (cA, 64, .inl (fun _ => 0))), (q7, .inl (cA, 256, .inl (fun _ => 0)))] H := hP
  have hD : va_D A [(h0, .inr (5, [.int 4, .int 0, .ref q0, .int 0, .ref q1, .ref q2, .int 0, .ref q3, .int 0, .int 0, .int 0, .ref q4, .ref q5, .ref q6, .ref q7])), (q0, .inl (cA, 64, .inl (fun _ => 0))), (q1, .inl (cA, 6, .inl (fun _ => 0))), (q2, .inl (cA, 6, .inl (fun _ => 0))), (q3, .inl (cA, 8, .inl (fun _ => 0))), (q4, .inl (cA, 14, .inl (fun _ => 0))), (q5, .inl (cA, 64, .inl (fun _ => 0))), (q6, .inl (cA, 64, .inl (fun _ => 0))), (q7, .inl (cA, 256, .inl (fun _ => 0)))] := hD
  have hP9 := hP.sub (ws' := ix_mw (fun i => [h0, q0, q1, q2, q3, q4, q5, q6, q7].getD i 0) cA (mw 4 0 (fun _ => 0) 0 (fun _ => 0) (fun _ => 0) 0 (fun _ => 0) 0 0 0 (fun _ => 0) (fun _ => 0) (fun _ => 0) (fun _ => 0))) [0, 1, 2, 3, 4, 5, 6, 7, 8] rfl
  have hD9 := hD.sub (ws' := ix_mw (fun i => [h0, q0, q1, q2, q3, q4, q5, q6, q7].getD i 0) cA (mw 4 0 (fun _ => 0) 0 (fun _ => 0) (fun _ => 0) 0 (fun _ => 0) 0 0 0 (fun _ => 0) (fun _ => 0) (fun _ => 0) (fun _ => 0))) [0, 1, 2, 3, 4, 5, 6, 7, 8] (by decide) rfl
  exact W.vret hx hb hr (fun t ht hW => ⟨⟨fun i => [h0, q0, q1, q2, q3, q4, q5, q6, q7].getD i 0, rfl, rfl, by rw [ht]; exact hP9, va_K.moved hW.alike hK, hD9⟩, hS.F ht⟩) hS.2.2 dX5_init_74
theorem dX4_init_0 : decode cX4_init 0 = .ok (.aload_n 0, 1) := by decide +kernel
theorem dX4_init_1 : decode cX4_init 1 = .ok (.invokespecial 1, 3) := by decide +kernel
theorem dX4_init_4 : decode cX4_init 4 = .ok (.aload_n 0, 1) := by decide +kernel
theorem dX4_init_5 : decode cX4_init 5 = .ok (.new 7, 3) := by decide +kernel
theorem dX4_init_8 : decode cX4_init 8 = .ok (.dup, 1) := by decide +kernel
theorem dX4_init_9 : decode cX4_init 9 = .ok (.invokespecial 9, 3) := by decide +kernel
theorem dX4_init_12 : decode cX4_init 12 = .ok (.putfield 10, 3) := by decide +kernel
theorem dX4_init_15 : decode cX4_init 15 = .ok (.aload_n 0, 1) := by decide +kernel
theorem dX4_init_16 : decode cX4_init 16 = .ok (.new 16, 3) := by decide +kernel
theorem dX4_init_19 : decode cX4_init 19 = .ok (.dup, 1) := by decide +kernel
theorem dX4_init_20 : decode cX4_init 20 = .ok (.invokespecial 18, 3) := by decide +kernel
theorem dX4_init_23 : decode cX4_init 23 = .ok (.putfield 19, 3) := by decide +kernel
theorem dX4_init_26 : decode cX4_init 26 = .ok (.aload_n 0, 1) := by decide +kernel
theorem dX4_init_27 : decode cX4_init 27 = .ok (.new 23, 3) := by decide +kernel
theorem dX4_init_30 : decode cX4_init 30 = .ok (.dup, 1) := by decide +kernel
theorem dX4_init_31 : decode cX4_init 31 = .ok (.invokespecial 25, 3) := by decide +kernel
theorem dX4_init_34 : decode cX4_init 34 = .ok (.putfield 26, 3) := by decide +kernel
theorem dX4_init_37 : decode cX4_init 37 = .ok (.aload_n 0, 1) := by decide +kernel
theorem dX4_init_38 : decode cX4_init 38 = .ok (.new 30, 3) := by decide +kernel
theorem dX4_init_41 : decode cX4_init 41 = .ok (.dup, 1) := by decide +kernel
theorem dX4_init_42 : decode cX4_init 42 = .ok (.invokespecial 32, 3) := by decide +kernel
theorem dX4_init_45 : decode cX4_init 45 = .ok (.putfield 33, 3) := by decide +kernel
theorem dX4_init_48 : decode cX4_init 48 = .ok (.aload_n 0, 1) := by decide +kernel
theorem dX4_init_49 : decode cX4_init 49 = .ok (.sipush 256, 3) := by decide +kernel
theorem dX4_init_52 : decode cX4_init 52 = .ok (.newarray .int, 2) := by decide +kernel
theorem dX4_init_54 : decode cX4_init 54 = .ok (.putfield 37, 3) := by decide +kernel
theorem dX4_init_57 : decode cX4_init 57 = .ok (.aload_n 0, 1) := by decide +kernel
theorem dX4_init_58 : decode cX4_init 58 = .ok (.sipush 256, 3) := by decide +kernel
theorem dX4_init_61 : decode cX4_init 61 = .ok (.newarray .int, 2) := by decide +kernel
theorem dX4_init_63 : decode cX4_init 63 = .ok (.putfield 41, 3) := by decide +kernel
theorem dX4_init_66 : decode cX4_init 66 = .ok (.return_, 1) := by decide +kernel
set_option maxHeartbeats 4000000 in
set_option maxRecDepth 100000 in
theorem n_X4 (l : Launch) (dC : Nat → ClassId) (dI : Nat → Nat → Nat) (cA : ClassId) (h0 sz : Nat) : Met l yX4_init (.code yX4_init cX4_init 1 none :: ix_gw) ({ frames := 2, cells := 15, slots := 751, locals := 32 }) (va_Pc [.ref h0] (fun U => U.heap.size = sz ∧ va_P (dC, dI) vwCl [(h0, .inr (4, [.null, .null, .null, .null, .null, .null]))] U.heap ∧ va_K (dC, dI) vwCl [(cA, .int)] U ∧ va_D (fun _ => True) [(h0, .inr (4, [.null, .null, .null, .null, .null, .null]))] ∧ ix_NW U)) (va_Qv (fun ad : Nat → Nat => ad 0 = h0) (fun ad t => va_P (dC, dI) vwCl (ix_mw ad cA (cw 4 0 (fun _ => 0) (fun _ => 0) 0 (fun _ => 0) (fun _ => 0) 0 (fun _ => 0) (fun _ => 0) (fun _ => 0) (fun _ => 0) (fun _ => 0) (fun _ => 0) (fun _ => 0) 0 0 0 0)) t.heap ∧ va_K (dC, dI) vwCl [(cA, .int)] t ∧ va_D (va_A [(h0, .inr (4, [.null, .null, .null, .null, .null, .null]))] sz) (ix_mw ad cA (cw 4 0 (fun _ => 0) (fun _ => 0) 0 (fun _ => 0) (fun _ => 0) 0 (fun _ => 0) (fun _ => 0) (fun _ => 0) (fun _ => 0) (fun _ => 0) (fun _ => 0) (fun _ => 0) 0 0 0 0))) (va_A [(h0, .inr (4, [.null, .null, .null, .null, .null, .null]))] sz)) 15 751 (va_A [(h0, .inr (4, [.null, .null, .null, .null, .null, .null]))] sz) := by
  refine ix_ofW (cc := cX4_init) (maxL := 1) (ret := none) (by decide +kernel) rfl ?_
  intro p e s m args below meth c s₁ B hml hv
  obtain ⟨rfl, hsz, hP, hK, hD0, hN⟩ := hv
  have hx := B.exec
  have hb := B.bytes
  have hr := B.returns
  have hts0 := atoms_spec (ws := .code yX4_init cX4_init 1 none :: ix_gw) B.pre
  have hts : ∀ w ∈ ix_gw, w.before ([Value.ref h0] : List Value).toArray s = true := fun w hw => hts0 w (List.mem_cons_of_mem _ hw)
  have hown : s.vm.findClass RX4 = some m.cls := findClass_of_methodNamed B.named
  have hlocks := B.notSynchronized
  have hin : meth.name = "<init>" := (name_of_methodNamed B.named B.method).1
  have harr : (Cond.arrayClass .int).before ([Value.ref h0] : List Value).toArray s = true := (hts (.arrayClass .int) (ix_wd_in (j := 71) (by decide +kernel)))
  subst hsz
  have hD := hD0.self (sz := s.heap.size)
  generalize hAe : va_A [(h0, .inr (4, [.null, .null, .null, .null, .null, .null]))] s.heap.size = A at hD ⊢
  have hA : ∀ q : Nat, s.heap.size ≤ q → A q := fun q h => by rw [← hAe]; exact Or.inr h
  have hS : va_S A s.heap s.heap [] := va_S.rf
  have hl := lv_entry ([.ref h0]) (n := 1) (Nat.le_of_ble_eq_true rfl)
  rw [lg_entry_eq]
  generalize (lg_sl ([.ref h0]) ++ List.replicate (1 - (lg_sl ([.ref h0])).length) Slot.unset).toArray = ls at hl ⊢
  have hl : lv_has ls 1 [(0, .ref h0)] := hl
  refine lv_aload_n hx hb dX4_init_0 rfl (lv_at hl 0 rfl) ?_
  refine W.objInit hx hb hown (hts (.methodLink RX4 1 objectInit) (ix_wd_in (j := 49) (by decide +kernel))) (hts (.instanceMethod objectInit) (ix_wd_in (j := 50) (by decide +kernel))) (hts (.code objectInit ⟨#[0xb1]⟩ 1 none) (ix_wd_in (j := 51) (by decide +kernel))) rfl (by rw [hml]; exact hl.1) rfl dX4_init_1 (Nat.le_of_ble_eq_true rfl) (Nat.le_of_ble_eq_true rfl) ?_
  refine W.eq (g2 := F0 m 4 ls []) rfl ?_
  refine lv_aload_n hx hb dX4_init_4 rfl (lv_at hl 0 rfl) ?_
  refine va_new (ci := 3) (fs := [.null, .null, .int 0, .int 0]) (C := RX3) (T := TX3) (N := 4) hx hb hts ix_uw3 tyX3 tyX3_ok hown (hts (.classLink RX4 7 RX3) (ix_wd_in (j := 52) (by decide +kernel))) (hts (.instantiable RX3 4) (ix_wd_in (j := 53) (by decide +kernel))) (hts (.initialized RX3) (ix_wd_in (j := 37) (by decide +kernel))) hK hP hD hS hA rfl (by decide +kernel) (Nat.le_of_ble_eq_true rfl) (Nat.le_of_ble_eq_true rfl) dX4_init_5 (fun o3 H hP hD hS => ?_)
  have hP : va_P (dC, dI) vwCl [(h0, .inr (4, [.null, .null, .null, .null, .null, .null])), (o3, .inr (3, [.null, .null, .int 0, .int 0]))] H := hP
  have hD : va_D A [(h0, .inr (4, [.null, .null, .null, .null, .null, .null])), (o3, .inr (3, [.null, .null, .int 0, .int 0]))] := hD
  refine W.widen (k := 1) (n := 4) (Nat.le_of_ble_eq_true rfl) (Nat.le_of_ble_eq_true rfl) ?_
  refine lv_dup hx hb dX4_init_8 rfl ?_
  have hPc := hP.sub (ws' := [(o3, .inr (3, [.null, .null, .int 0, .int 0]))]) [1] rfl
  have hDc := hD.sub (ws' := [(o3, .inr (3, [.null, .null, .int 0, .int 0]))]) [1] (by decide) rfl
  have hFc := va_free (wc := [(o3, .inr (3, [.null, .null, .int 0, .int 0]))]) hD hS hA [1] rfl
  refine va_callv (va_runIN (As := []) (rest := [.ref o3, .ref h0]) (host := "ColdGrid") ⟨hx, hb, hml, hown, hts⟩ (n_X3 l dC dI cA o3 H.size) ⟨va_cnB 0 hts (n_good (ix_wd_in (j := 56) (by decide +kernel))) rfl rfl rfl (hN _ (ix_wn_in (j := 54) (by decide +kernel)) rfl) (hts (.initialized RX3) (ix_wd_in (j := 37) (by decide +kernel))) (by decide +kernel) ⟨(Nat.le_of_ble_eq_true rfl), (Nat.le_of_ble_eq_true rfl)⟩, rfl, (hts (.instanceMethod yX3_init) (ix_wd_in (j := 55) (by decide +kernel)))⟩ ⟨fun a U g mk q => by obtain ⟨q0, q1, qP, qK, qD⟩ := q; exact ⟨q0, q1, qP, va_K.moved (u := U) (U := U.calling g mk a) (Vm.Alike.refl U.vm) qK, qD⟩, fun U hU hW => ⟨rfl, by rw [hU], by rw [hU]; exact hPc, va_K.moved hW.alike hK, hDc.weaken (fun _ _ _ _ => trivial)⟩⟩ rfl rfl hl.1 rfl (lv_room (Nat.le_of_ble_eq_true rfl)) dX4_init_9 ⟨(Nat.le_of_ble_eq_true rfl), (Nat.le_of_ble_eq_true rfl)⟩) hS (fun q _ h => hFc q h) hFc (fun u3 t H1 locs ht hvm h9 hB hz1 hk1 hS => ?_)
  obtain ⟨hP1, hK1, hD1⟩ := hB
  rw [ht] at hP1
  obtain ⟨hP, hD⟩ := va_join (wr := [(h0, .inr (4, [.null, .null, .null, .null, .null, .null]))]) (w1 := [(o3, .inr (3, [.ref (u3 0), .ref (u3 1), .int 4, .int 0])), ((u3 0), .inl (cA, 64, .inl (fun _ => 0))), ((u3 1), .inl (cA, 64, .inl (fun _ => 0)))]) hP hD [1] [0] rfl rfl (by decide) (by decide) hk1 hFc hP1 hD1
  generalize H1 = H at hP hS ⊢
  have hP : va_P (dC, dI) vwCl [(h0, .inr (4, [.null, .null, .null, .null, .null, .null])), (o3, .inr (3, [.ref (u3 0), .ref (u3 1), .int 4, .int 0])), ((u3 0), .inl (cA, 64, .inl (fun _ => 0))), ((u3 1), .inl (cA, 64, .inl (fun _ => 0)))] H := hP
  have hD : va_D A [(h0, .inr (4, [.null, .null, .null, .null, .null, .null])), (o3, .inr (3, [.ref (u3 0), .ref (u3 1), .int 4, .int 0])), ((u3 0), .inl (cA, 64, .inl (fun _ => 0))), ((u3 1), .inl (cA, 64, .inl (fun _ => 0)))] := hD
  refine W.widen (k := 3) (n := 132) (Nat.le_of_ble_eq_true rfl) (Nat.le_of_ble_eq_true rfl) ?_
  refine va_putF (D := (dC, dI)) (ci := 4) (v := .ref o3) (ty := .object "ColdGrid$Weights") (C := RX4) (T := TX4) (N := 6) hx hb hts ix_uw4 tyX4 tyX4_ok nmX4 hown hK hP hD hS 0 rfl rfl 0 (by decide) (hts (.fieldLink RX4 10 "ColdGrid" "weights" "LColdGrid$Weights;") (ix_wd_in (j := 132) (by decide +kernel))) (fun _ h9 => h9) rfl hin rfl (by decide +kernel) rfl rfl (Nat.le_of_ble_eq_true rfl) dX4_init_12 (fun H locs hP hD hS => ?_)
  have hP : va_P (dC, dI) vwCl [(h0, .inr (4, [.ref o3, .null, .null, .null, .null, .null])), (o3, .inr (3, [.ref (u3 0), .ref (u3 1), .int 4, .int 0])), ((u3 0), .inl (cA, 64, .inl (fun _ => 0))), ((u3 1), .inl (cA, 64, .inl (fun _ => 0)))] H := hP
  have hD : va_D A [(h0, .inr (4, [.ref o3, .null, .null, .null, .null, .null])), (o3, .inr (3, [.ref (u3 0), .ref (u3 1), .int 4, .int 0])), ((u3 0), .inl (cA, 64, .inl (fun _ => 0))), ((u3 1), .inl (cA, 64, .inl (fun _ => 0)))] := hD
  refine lv_aload_n hx hb dX4_init_15 rfl (lv_at hl 0 rfl) ?_
  refine va_new (ci := 2) (fs := [.null, .null, .int 0]) (C := RX2) (T := TX2) (N := 3) hx hb hts ix_uw2 tyX2 tyX2_ok hown (hts (.classLink RX4 16 RX2) (ix_wd_in (j := 72) (by decide +kernel))) (hts (.instantiable RX2 3) (ix_wd_in (j := 73) (by decide +kernel))) (hts (.initialized RX2) (ix_wd_in (j := 38) (by decide +kernel))) hK hP hD hS hA rfl (by decide +kernel) (Nat.le_of_ble_eq_true rfl) (Nat.le_of_ble_eq_true rfl) dX4_init_16 (fun o2 H hP hD hS => ?_)
  have hP : va_P (dC, dI) vwCl [(h0, .inr (4, [.ref o3, .null, .null, .null, .null, .null])), (o3, .inr (3, [.ref (u3 0), .ref (u3 1), .int 4, .int 0])), ((u3 0), .inl (cA, 64, .inl (fun _ => 0))), ((u3 1), .inl (cA, 64, .inl (fun _ => 0))), (o2, .inr (2, [.null, .null, .int 0]))] H := hP
  have hD : va_D A [(h0, .inr (4, [.ref o3, .null, .null, .null, .null, .null])), (o3, .inr (3, [.ref (u3 0), .ref (u3 1), .int 4, .int 0])), ((u3 0), .inl (cA, 64, .inl (fun _ => 0))), ((u3 1), .inl (cA, 64, .inl (fun _ => 0))), (o2, .inr (2, [.null, .null, .int 0]))] := hD
  refine W.widen (k := 4) (n := 135) (Nat.le_of_ble_eq_true rfl) (Nat.le_of_ble_eq_true rfl) ?_
  refine lv_dup hx hb dX4_init_19 rfl ?_
  have hPc := hP.sub (ws' := [(o2, .inr (2, [.null, .null, .int 0]))]) [4] rfl
  have hDc := hD.sub (ws' := [(o2, .inr (2, [.null, .null, .int 0]))]) [4] (by decide) rfl
  have hFc := va_free (wc := [(o2, .inr (2, [.null, .null, .int 0]))]) hD hS hA [4] rfl
  refine va_callv (va_runIN (As := []) (rest := [.ref o2, .ref h0]) (host := "ColdGrid") ⟨hx, hb, hml, hown, hts⟩ (n_X2 l dC dI cA o2 H.size) ⟨va_cnB 0 hts (n_good (ix_wd_in (j := 76) (by decide +kernel))) rfl rfl rfl (hN _ (ix_wn_in (j := 74) (by decide +kernel)) rfl) (hts (.initialized RX2) (ix_wd_in (j := 38) (by decide +kernel))) (by decide +kernel) ⟨(Nat.le_of_ble_eq_true rfl), (Nat.le_of_ble_eq_true rfl)⟩, rfl, (hts (.instanceMethod yX2_init) (ix_wd_in (j := 75) (by decide +kernel)))⟩ ⟨fun a U g mk q => by obtain ⟨q0, q1, qP, qK, qD⟩ := q; exact ⟨q0, q1, qP, va_K.moved (u := U) (U := U.calling g mk a) (Vm.Alike.refl U.vm) qK, qD⟩, fun U hU hW => ⟨rfl, by rw [hU], by rw [hU]; exact hPc, va_K.moved hW.alike hK, hDc.weaken (fun _ _ _ _ => trivial)⟩⟩ rfl rfl hl.1 rfl (lv_room (Nat.le_of_ble_eq_true rfl)) dX4_init_20 ⟨(Nat.le_of_ble_eq_true rfl), (Nat.le_of_ble_eq_true rfl)⟩) hS (fun q _ h => hFc q h) hFc (fun u2 t H1 locs ht hvm h9 hB hz1 hk1 hS => ?_)
  obtain ⟨hP1, hK1, hD1⟩ := hB
  rw [ht] at hP1
  obtain ⟨hP, hD⟩ := va_join (wr := [(h0, .inr (4, [.ref o3, .null, .null, .null, .null, .null])), (o3, .inr (3, [.ref (u3 0), .ref (u3 1), .int 4, .int 0])), ((u3 0), .inl (cA, 64, .inl (fun _ => 0))), ((u3 1), .inl (cA, 64, .inl (fun _ => 0)))]) (w1 := [(o2, .inr (2, [.ref (u2 0), .ref (u2 1), .int 0])), ((u2 0), .inl (cA, 6, .inl (fun _ => 0))), ((u2 1), .inl (cA, 6, .inl (fun _ => 0)))]) hP hD [4] [0, 1, 2, 3] rfl rfl (by decide) (by decide) hk1 hFc hP1 hD1
  generalize H1 = H at hP hS ⊢
  have hP : va_P (dC, dI) vwCl [(h0, .inr (4, [.ref o3, .null, .null, .null, .null, .null])), (o3, .inr (3, [.ref (u3 0), .ref (u3 1), .int 4, .int 0])), ((u3 0), .inl (cA, 64, .inl (fun _ => 0))), ((u3 1), .inl (cA, 64, .inl (fun _ => 0))), (o2, .inr (2, [.ref (u2 0), .ref (u2 1), .int 0])), ((u2 0), .inl (cA, 6, .inl (fun _ => 0))), ((u2 1), .inl (cA, 6, .inl (fun _ => 0)))] H := hP
  have hD : va_D A [(h0, .inr (4, [.ref o3, .null, .null, .null, .null, .null])), (o3, .inr (3, [.ref (u3 0), .ref (u3 1), .int 4, .int 0])), ((u3 0), .inl (cA, 64, .inl (fun _ => 0))), ((u3 1), .inl (cA, 64, .inl (fun _ => 0))), (o2, .inr (2, [.ref (u2 0), .ref (u2 1), .int 0])), ((u2 0), .inl (cA, 6, .inl (fun _ => 0))), ((u2 1), .inl (cA, 6, .inl (fun _ => 0)))] := hD
  refine W.widen (k := 6) (n := 147) (Nat.le_of_ble_eq_true rfl) (Nat.le_of_ble_eq_true rfl) ?_
  refine va_putF (D := (dC, dI)) (ci := 4) (v := .ref o2) (ty := .object "ColdGrid$Laws") (C := RX4) (T := TX4) (N := 6) hx hb hts ix_uw4 tyX4 tyX4_ok nmX4 hown hK hP hD hS 0 rfl rfl 1 (by decide) (hts (.fieldLink RX4 19 "ColdGrid" "laws" "LColdGrid$Laws;") (ix_wd_in (j := 133) (by decide +kernel))) (fun _ h9 => h9) rfl hin rfl (by decide +kernel) rfl rfl (Nat.le_of_ble_eq_true rfl) dX4_init_23 (fun H locs hP hD hS => ?_)
  have hP : va_P (dC, dI) vwCl [(h0, .inr (4, [.ref o3, .ref o2, .null, .null, .null, .null])), (o3, .inr (3, [.ref (u3 0), .ref (u3 1), .int 4, .int 0])), ((u3 0), .inl (cA, 64, .inl (fun _ => 0))), ((u3 1), .inl (cA, 64, .inl (fun _ => 0))), (o2, .inr (2, [.ref (u2 0), .ref (u2 1), .int 0])), ((u2 0), .inl (cA, 6, .inl (fun _ => 0))), ((u2 1), .inl (cA, 6, .inl (fun _ => 0)))] H := hP
  have hD : va_D A [(h0, .inr (4, [.ref o3, .ref o2, .null, .null, .null, .null])), (o3, .inr (3, [.ref (u3 0), .ref (u3 1), .int 4, .int 0])), ((u3 0), .inl (cA, 64, .inl (fun _ => 0))), ((u3 1), .inl (cA, 64, .inl (fun _ => 0))), (o2, .inr (2, [.ref (u2 0), .ref (u2 1), .int 0])), ((u2 0), .inl (cA, 6, .inl (fun _ => 0))), ((u2 1), .inl (cA, 6, .inl (fun _ => 0)))] := hD
  refine lv_aload_n hx hb dX4_init_26 rfl (lv_at hl 0 rfl) ?_
  refine va_new (ci := 1) (fs := [.null, .int 0]) (C := RX1) (T := TX1) (N := 2) hx hb hts ix_uw1 tyX1 tyX1_ok hown (hts (.classLink RX4 23 RX1) (ix_wd_in (j := 88) (by decide +kernel))) (hts (.instantiable RX1 2) (ix_wd_in (j := 89) (by decide +kernel))) (hts (.initialized RX1) (ix_wd_in (j := 39) (by decide +kernel))) hK hP hD hS hA rfl (by decide +kernel) (Nat.le_of_ble_eq_true rfl) (Nat.le_of_ble_eq_true rfl) dX4_init_27 (fun o1 H hP hD hS => ?_)
  have hP : va_P (dC, dI) vwCl [(h0, .inr (4, [.ref o3, .ref o2, .null, .null, .null, .null])), (o3, .inr (3, [.ref (u3 0), .ref (u3 1), .int 4, .int 0])), ((u3 0), .inl (cA, 64, .inl (fun _ => 0))), ((u3 1), .inl (cA, 64, .inl (fun _ => 0))), (o2, .inr (2, [.ref (u2 0), .ref (u2 1), .int 0])), ((u2 0), .inl (cA, 6, .inl (fun _ => 0))), ((u2 1), .inl (cA, 6, .inl (fun _ => 0))), (o1, .inr (1, [.null, .int 0]))] H := hP
  have hD : va_D A [(h0, .inr (4, [.ref o3, .ref o2, .null, .null, .null, .null])), (o3, .inr (3, [.ref (u3 0), .ref (u3 1), .int 4, .int 0])), ((u3 0), .inl (cA, 64, .inl (fun _ => 0))), ((u3 1), .inl (cA, 64, .inl (fun _ => 0))), (o2, .inr (2, [.ref (u2 0), .ref (u2 1), .int 0])), ((u2 0), .inl (cA, 6, .inl (fun _ => 0))), ((u2 1), .inl (cA, 6, .inl (fun _ => 0))), (o1, .inr (1, [.null, .int 0]))] := hD
  refine W.widen (k := 7) (n := 149) (Nat.le_of_ble_eq_true rfl) (Nat.le_of_ble_eq_true rfl) ?_
  refine lv_dup hx hb dX4_init_30 rfl ?_
  have hPc := hP.sub (ws' := [(o1, .inr (1, [.null, .int 0]))]) [7] rfl
  have hDc := hD.sub (ws' := [(o1, .inr (1, [.null, .int 0]))]) [7] (by decide) rfl
  have hFc := va_free (wc := [(o1, .inr (1, [.null, .int 0]))]) hD hS hA [7] rfl
  refine va_callv (va_runIN (As := []) (rest := [.ref o1, .ref h0]) (host := "ColdGrid") ⟨hx, hb, hml, hown, hts⟩ (n_X1 l dC dI cA o1 H.size) ⟨va_cnB 0 hts (n_good (ix_wd_in (j := 92) (by decide +kernel))) rfl rfl rfl (hN _ (ix_wn_in (j := 90) (by decide +kernel)) rfl) (hts (.initialized RX1) (ix_wd_in (j := 39) (by decide +kernel))) (by decide +kernel) ⟨(Nat.le_of_ble_eq_true rfl), (Nat.le_of_ble_eq_true rfl)⟩, rfl, (hts (.instanceMethod yX1_init) (ix_wd_in (j := 91) (by decide +kernel)))⟩ ⟨fun a U g mk q => by obtain ⟨q0, q1, qP, qK, qD⟩ := q; exact ⟨q0, q1, qP, va_K.moved (u := U) (U := U.calling g mk a) (Vm.Alike.refl U.vm) qK, qD⟩, fun U hU hW => ⟨rfl, by rw [hU], by rw [hU]; exact hPc, va_K.moved hW.alike hK, hDc.weaken (fun _ _ _ _ => trivial)⟩⟩ rfl rfl hl.1 rfl (lv_room (Nat.le_of_ble_eq_true rfl)) dX4_init_31 ⟨(Nat.le_of_ble_eq_true rfl), (Nat.le_of_ble_eq_true rfl)⟩) hS (fun q _ h => hFc q h) hFc (fun u1 t H1 locs ht hvm h9 hB hz1 hk1 hS => ?_)
  obtain ⟨hP1, hK1, hD1⟩ := hB
  rw [ht] at hP1
  obtain ⟨hP, hD⟩ := va_join (wr := [(h0, .inr (4, [.ref o3, .ref o2, .null, .null, .null, .null])), (o3, .inr (3, [.ref (u3 0), .ref (u3 1), .int 4, .int 0])), ((u3 0), .inl (cA, 64, .inl (fun _ => 0))), ((u3 1), .inl (cA, 64, .inl (fun _ => 0))), (o2, .inr (2, [.ref (u2 0), .ref (u2 1), .int 0])), ((u2 0), .inl (cA, 6, .inl (fun _ => 0))), ((u2 1), .inl (cA, 6, .inl (fun _ => 0)))]) (w1 := [(o1, .inr (1, [.ref (u1 0), .int 0])), ((u1 0), .inl (cA, 8, .inl (fun _ => 0)))]) hP hD [7] [0, 1, 2, 3, 4, 5, 6] rfl rfl (by decide) (by decide) hk1 hFc hP1 hD1
  generalize H1 = H at hP hS ⊢
  have hP : va_P (dC, dI) vwCl [(h0, .inr (4, [.ref o3, .ref o2, .null, .null, .null, .null])), (o3, .inr (3, [.ref (u3 0), .ref (u3 1), .int 4, .int 0])), ((u3 0), .inl (cA, 64, .inl (fun _ => 0))), ((u3 1), .inl (cA, 64, .inl (fun _ => 0))), (o2, .inr (2, [.ref (u2 0), .ref (u2 1), .int 0])), ((u2 0), .inl (cA, 6, .inl (fun _ => 0))), ((u2 1), .inl (cA, 6, .inl (fun _ => 0))), (o1, .inr (1, [.ref (u1 0), .int 0])), ((u1 0), .inl (cA, 8, .inl (fun _ => 0)))] H := hP
  have hD : va_D A [(h0, .inr (4, [.ref o3, .ref o2, .null, .null, .null, .null])), (o3, .inr (3, [.ref (u3 0), .ref (u3 1), .int 4, .int 0])), ((u3 0), .inl (cA, 64, .inl (fun _ => 0))), ((u3 1), .inl (cA, 64, .inl (fun _ => 0))), (o2, .inr (2, [.ref (u2 0), .ref (u2 1), .int 0])), ((u2 0), .inl (cA, 6, .inl (fun _ => 0))), ((u2 1), .inl (cA, 6, .inl (fun _ => 0))), (o1, .inr (1, [.ref (u1 0), .int 0])), ((u1 0), .inl (cA, 8, .inl (fun _ => 0)))] := hD
  refine W.widen (k := 8) (n := 157) (Nat.le_of_ble_eq_true rfl) (Nat.le_of_ble_eq_true rfl) ?_
  refine va_putF (D := (dC, dI)) (ci := 4) (v := .ref o1) (ty := .object "ColdGrid$Grid") (C := RX4) (T := TX4) (N := 6) hx hb hts ix_uw4 tyX4 tyX4_ok nmX4 hown hK hP hD hS 0 rfl rfl 2 (by decide) (hts (.fieldLink RX4 26 "ColdGrid" "grid" "LColdGrid$Grid;") (ix_wd_in (j := 134) (by decide +kernel))) (fun _ h9 => h9) rfl hin rfl (by decide +kernel) rfl rfl (Nat.le_of_ble_eq_true rfl) dX4_init_34 (fun H locs hP hD hS => ?_)
  have hP : va_P (dC, dI) vwCl [(h0, .inr (4, [.ref o3, .ref o2, .ref o1, .null, .null, .null])), (o3, .inr (3, [.ref (u3 0), .ref (u3 1), .int 4, .int 0])), ((u3 0), .inl (cA, 64, .inl (fun _ => 0))), ((u3 1), .inl (cA, 64, .inl (fun _ => 0))), (o2, .inr (2, [.ref (u2 0), .ref (u2 1), .int 0])), ((u2 0), .inl (cA, 6, .inl (fun _ => 0))), ((u2 1), .inl (cA, 6, .inl (fun _ => 0))), (o1, .inr (1, [.ref (u1 0), .int 0])), ((u1 0), .inl (cA, 8, .inl (fun _ => 0)))] H := hP
  have hD : va_D A [(h0, .inr (4, [.ref o3, .ref o2, .ref o1, .null, .null, .null])), (o3, .inr (3, [.ref (u3 0), .ref (u3 1), .int 4, .int 0])), ((u3 0), .inl (cA, 64, .inl (fun _ => 0))), ((u3 1), .inl (cA, 64, .inl (fun _ => 0))), (o2, .inr (2, [.ref (u2 0), .ref (u2 1), .int 0])), ((u2 0), .inl (cA, 6, .inl (fun _ => 0))), ((u2 1), .inl (cA, 6, .inl (fun _ => 0))), (o1, .inr (1, [.ref (u1 0), .int 0])), ((u1 0), .inl (cA, 8, .inl (fun _ => 0)))] := hD
  refine lv_aload_n hx hb dX4_init_37 rfl (lv_at hl 0 rfl) ?_
  refine va_new (ci := 0) (fs := [.null, .null, .null, .null, .int 0, .int 0, .int 0, .int 0]) (C := RX0) (T := TX0) (N := 8) hx hb hts ix_uw0 tyX0 tyX0_ok hown (hts (.classLink RX4 30 RX0) (ix_wd_in (j := 101) (by decide +kernel))) (hts (.instantiable RX0 8) (ix_wd_in (j := 102) (by decide +kernel))) (hts (.initialized RX0) (ix_wd_in (j := 40) (by decide +kernel))) hK hP hD hS hA rfl (by decide +kernel) (Nat.le_of_ble_eq_true rfl) (Nat.le_of_ble_eq_true rfl) dX4_init_38 (fun o0 H hP hD hS => ?_)
  have hP : va_P (dC, dI) vwCl [(h0, .inr (4, [.ref o3, .ref o2, .ref o1, .null, .null, .null])), (o3, .inr (3, [.ref (u3 0), .ref (u3 1), .int 4, .int 0])), ((u3 0), .inl (cA, 64, .inl (fun _ => 0))), ((u3 1), .inl (cA, 64, .inl (fun _ => 0))), (o2, .inr (2, [.ref (u2 0), .ref (u2 1), .int 0])), ((u2 0), .inl (cA, 6, .inl (fun _ => 0))), ((u2 1), .inl (cA, 6, .inl (fun _ => 0))), (o1, .inr (1, [.ref (u1 0), .int 0])), ((u1 0), .inl (cA, 8, .inl (fun _ => 0))), (o0, .inr (0, [.null, .null, .null, .null, .int 0, .int 0, .int 0, .int 0]))] H := hP
  have hD : va_D A [(h0, .inr (4, [.ref o3, .ref o2, .ref o1, .null, .null, .null])), (o3, .inr (3, [.ref (u3 0), .ref (u3 1), .int 4, .int 0])), ((u3 0), .inl (cA, 64, .inl (fun _ => 0))), ((u3 1), .inl (cA, 64, .inl (fun _ => 0))), (o2, .inr (2, [.ref (u2 0), .ref (u2 1), .int 0])), ((u2 0), .inl (cA, 6, .inl (fun _ => 0))), ((u2 1), .inl (cA, 6, .inl (fun _ => 0))), (o1, .inr (1, [.ref (u1 0), .int 0])), ((u1 0), .inl (cA, 8, .inl (fun _ => 0))), (o0, .inr (0, [.null, .null, .null, .null, .int 0, .int 0, .int 0, .int 0]))] := hD
  refine W.widen (k := 9) (n := 165) (Nat.le_of_ble_eq_true rfl) (Nat.le_of_ble_eq_true rfl) ?_
  refine lv_dup hx hb dX4_init_41 rfl ?_
  have hPc := hP.sub (ws' := [(o0, .inr (0, [.null, .null, .null, .null, .int 0, .int 0, .int 0, .int 0]))]) [9] rfl
  have hDc := hD.sub (ws' := [(o0, .inr (0, [.null, .null, .null, .null, .int 0, .int 0, .int 0, .int 0]))]) [9] (by decide) rfl
  have hFc := va_free (wc := [(o0, .inr (0, [.null, .null, .null, .null, .int 0, .int 0, .int 0, .int 0]))]) hD hS hA [9] rfl
  refine va_callv (va_runIN (As := []) (rest := [.ref o0, .ref h0]) (host := "ColdGrid") ⟨hx, hb, hml, hown, hts⟩ (n_X0 l dC dI cA o0 H.size) ⟨va_cnB 0 hts (n_good (ix_wd_in (j := 105) (by decide +kernel))) rfl rfl rfl (hN _ (ix_wn_in (j := 103) (by decide +kernel)) rfl) (hts (.initialized RX0) (ix_wd_in (j := 40) (by decide +kernel))) (by decide +kernel) ⟨(Nat.le_of_ble_eq_true rfl), (Nat.le_of_ble_eq_true rfl)⟩, rfl, (hts (.instanceMethod yX0_init) (ix_wd_in (j := 104) (by decide +kernel)))⟩ ⟨fun a U g mk q => by obtain ⟨q0, q1, qP, qK, qD⟩ := q; exact ⟨q0, q1, qP, va_K.moved (u := U) (U := U.calling g mk a) (Vm.Alike.refl U.vm) qK, qD⟩, fun U hU hW => ⟨rfl, by rw [hU], by rw [hU]; exact hPc, va_K.moved hW.alike hK, hDc.weaken (fun _ _ _ _ => trivial)⟩⟩ rfl rfl hl.1 rfl (lv_room (Nat.le_of_ble_eq_true rfl)) dX4_init_42 ⟨(Nat.le_of_ble_eq_true rfl), (Nat.le_of_ble_eq_true rfl)⟩) hS (fun q _ h => hFc q h) hFc (fun u0 t H1 locs ht hvm h9 hB hz1 hk1 hS => ?_)
  obtain ⟨hP1, hK1, hD1⟩ := hB
  rw [ht] at hP1
  obtain ⟨hP, hD⟩ := va_join (wr := [(h0, .inr (4, [.ref o3, .ref o2, .ref o1, .null, .null, .null])), (o3, .inr (3, [.ref (u3 0), .ref (u3 1), .int 4, .int 0])), ((u3 0), .inl (cA, 64, .inl (fun _ => 0))), ((u3 1), .inl (cA, 64, .inl (fun _ => 0))), (o2, .inr (2, [.ref (u2 0), .ref (u2 1), .int 0])), ((u2 0), .inl (cA, 6, .inl (fun _ => 0))), ((u2 1), .inl (cA, 6, .inl (fun _ => 0))), (o1, .inr (1, [.ref (u1 0), .int 0])), ((u1 0), .inl (cA, 8, .inl (fun _ => 0)))]) (w1 := [(o0, .inr (0, [.ref (u0 0), .ref (u0 1), .ref (u0 2), .ref (u0 3), .int 0, .int 0, .int 0, .int 0])), ((u0 0), .inl (cA, 20, .inl (fun _ => 0))), ((u0 1), .inl (cA, 20, .inl (fun _ => 0))), ((u0 2), .inl (cA, 20, .inl (fun _ => 0))), ((u0 3), .inl (cA, 14, .inl (fun _ => 0)))]) hP hD [9] [0, 1, 2, 3, 4, 5, 6, 7, 8] rfl rfl (by decide) (by decide) hk1 hFc hP1 hD1
  generalize H1 = H at hP hS ⊢
  have hP : va_P (dC, dI) vwCl [(h0, .inr (4, [.ref o3, .ref o2, .ref o1, .null, .null, .null])), (o3, .inr (3, [.ref (u3 0), .ref (u3 1), .int 4, .int 0])), ((u3 0), .inl (cA, 64, .inl (fun _ => 0))), ((u3 1), .inl (cA, 64, .inl (fun _ => 0))), (o2, .inr (2, [.ref (u2 0), .ref (u2 1), .int 0])), ((u2 0), .inl (cA, 6, .inl (fun _ => 0))), ((u2 1), .inl (cA, 6, .inl (fun _ => 0))), (o1, .inr (1, [.ref (u1 0), .int 0])), ((u1 0), .inl (cA, 8, .inl (fun _ => 0))), (o0, .inr (0, [.ref (u0 0), .ref (u0 1), .ref (u0 2), .ref (u0 3), .int 0, .int 0, .int 0, .int 0])), ((u0 0), .inl (cA, 20, .inl (fun _ => 0))), ((u0 1), .inl (cA, 20, .inl (fun _ => 0))), ((u0 2), .inl (cA, 20, .inl (fun _ => 0))), ((u0 3), .inl (cA, 14, .inl (fun _ => 0)))] H := hP
  have hD : va_D A [(h0, .inr (4, [.ref o3, .ref o2, .ref o1, .null, .null, .null])), (o3, .inr (3, [.ref (u3 0), .ref (u3 1), .int 4, .int 0])), ((u3 0), .inl (cA, 64, .inl (fun _ => 0))), ((u3 1), .inl (cA, 64, .inl (fun _ => 0))), (o2, .inr (2, [.ref (u2 0), .ref (u2 1), .int 0])), ((u2 0), .inl (cA, 6, .inl (fun _ => 0))), ((u2 1), .inl (cA, 6, .inl (fun _ => 0))), (o1, .inr (1, [.ref (u1 0), .int 0])), ((u1 0), .inl (cA, 8, .inl (fun _ => 0))), (o0, .inr (0, [.ref (u0 0), .ref (u0 1), .ref (u0 2), .ref (u0 3), .int 0, .int 0, .int 0, .int 0])), ((u0 0), .inl (cA, 20, .inl (fun _ => 0))), ((u0 1), .inl (cA, 20, .inl (fun _ => 0))), ((u0 2), .inl (cA, 20, .inl (fun _ => 0))), ((u0 3), .inl (cA, 14, .inl (fun _ => 0)))] := hD
  refine W.widen (k := 13) (n := 239) (Nat.le_of_ble_eq_true rfl) (Nat.le_of_ble_eq_true rfl) ?_
  refine va_putF (D := (dC, dI)) (ci := 4) (v := .ref o0) (ty := .object "ColdGrid$CellEnergy") (C := RX4) (T := TX4) (N := 6) hx hb hts ix_uw4 tyX4 tyX4_ok nmX4 hown hK hP hD hS 0 rfl rfl 3 (by decide) (hts (.fieldLink RX4 33 "ColdGrid" "cellEnergy" "LColdGrid$CellEnergy;") (ix_wd_in (j := 135) (by decide +kernel))) (fun _ h9 => h9) rfl hin rfl (by decide +kernel) rfl rfl (Nat.le_of_ble_eq_true rfl) dX4_init_45 (fun H locs hP hD hS => ?_)
  have hP : va_P (dC, dI) vwCl [(h0, .inr (4, [.ref o3, .ref o2, .ref o1, .ref o0, .null, .null])), (o3, .inr (3, [.ref (u3 0), .ref (u3 1), .int 4, .int 0])), ((u3 0), .inl (cA, 64, .inl (fun _ => 0))), ((u3 1), .inl (cA, 64, .inl (fun _ => 0))), (o2, .inr (2, [.ref (u2 0), .ref (u2 1), .int 0])), ((u2 0), .inl (cA, 6, .inl (fun _ => 0))), ((u2 1), .inl (cA, 6, .inl (fun _ => 0))), (o1, .inr (1, [.ref (u1 0), .int 0])), ((u1 0), .inl (cA, 8, .inl (fun _ => 0))), (o0, .inr (0, [.ref (u0 0), .ref (u0 1), .ref (u0 2), .ref (u0 3), .int 0, .int 0, .int 0, .int 0])), ((u0 0), .inl (cA, 20, .inl (fun _ => 0))), ((u0 1), .inl (cA, 20, .inl (fun _ => 0))), ((u0 2), .inl (cA, 20, .inl (fun _ => 0))), ((u0 3), .inl (cA, 14, .inl (fun _ => 0)))] H := hP
  have hD : va_D A [(h0, .inr (4, [.ref o3, .ref o2, .ref o1, .ref o0, .null, .null])), (o3, .inr (3, [.ref (u3 0), .ref (u3 1), .int 4, .int 0])), ((u3 0), .inl (cA, 64, .inl (fun _ => 0))), ((u3 1), .inl (cA, 64, .inl (fun _ => 0))), (o2, .inr (2, [.ref (u2 0), .ref (u2 1), .int 0])), ((u2 0), .inl (cA, 6, .inl (fun _ => 0))), ((u2 1), .inl (cA, 6, .inl (fun _ => 0))), (o1, .inr (1, [.ref (u1 0), .int 0])), ((u1 0), .inl (cA, 8, .inl (fun _ => 0))), (o0, .inr (0, [.ref (u0 0), .ref (u0 1), .ref (u0 2), .ref (u0 3), .int 0, .int 0, .int 0, .int 0])), ((u0 0), .inl (cA, 20, .inl (fun _ => 0))), ((u0 1), .inl (cA, 20, .inl (fun _ => 0))), ((u0 2), .inl (cA, 20, .inl (fun _ => 0))), ((u0 3), .inl (cA, 14, .inl (fun _ => 0)))] := hD
  refine lv_aload_n hx hb dX4_init_48 rfl (lv_at hl 0 rfl) ?_
  refine lv_sipush (v := nI 256) hx hb dX4_init_49 (by decide) ?_
  refine ix_newa hx hb harr hK hP hD hS hA 256 (by decide) (Nat.le_of_ble_eq_true rfl) (Nat.le_of_ble_eq_true rfl) dX4_init_52 (fun q0 H hP hD hS => ?_)
  have hP : va_P (dC, dI) vwCl [(h0, .inr (4, [.ref o3, .ref o2, .ref o1, .ref o0, .null, .null])), (o3, .inr (3, [.ref (u3 0), .ref (u3 1), .int 4, .int 0])), ((u3 0), .inl (cA, 64, .inl (fun _ => 0))), ((u3 1), .inl (cA, 64, .inl (fun _ => 0))), (o2, .inr (2, [.ref (u2 0), .ref (u2 1), .int 0])), ((u2 0), .inl (cA, 6, .inl (fun _ => 0))), ((u2 1), .inl (cA, 6, .inl (fun _ => 0))), (o1, .inr (1, [.ref (u1 0), .int 0])), ((u1 0), .inl (cA, 8, .inl (fun _ => 0))), (o0, .inr (0, [.ref (u0 0), .ref (u0 1), .ref (u0 2), .ref (u0 3), .int 0, .int 0, .int 0, .int 0])), ((u0 0), .inl (cA, 20, .inl (fun _ => 0))), ((u0 1), .inl (cA, 20, .inl (fun _ => 0))), ((u0 2), .inl (cA, 20, .inl (fun _ => 0))), ((u0 3), .inl (cA, 14, .inl (fun _ => 0))), (q0, .inl (cA, 256, .inl (fun _ => 0)))] H := hP
  have hD : va_D A [(h0, .inr (4, [.ref o3, .ref o2, .ref o1, .ref o0, .null, .null])), (o3, .inr (3, [.ref (u3 0), .ref (u3 1), .int 4, .int 0])), ((u3 0), .inl (cA, 64, .inl (fun _ => 0))), ((u3 1), .inl (cA, 64, .inl (fun _ => 0))), (o2, .inr (2, [.ref (u2 0), .ref (u2 1), .int 0])), ((u2 0), .inl (cA, 6, .inl (fun _ => 0))), ((u2 1), .inl (cA, 6, .inl (fun _ => 0))), (o1, .inr (1, [.ref (u1 0), .int 0])), ((u1 0), .inl (cA, 8, .inl (fun _ => 0))), (o0, .inr (0, [.ref (u0 0), .ref (u0 1), .ref (u0 2), .ref (u0 3), .int 0, .int 0, .int 0, .int 0])), ((u0 0), .inl (cA, 20, .inl (fun _ => 0))), ((u0 1), .inl (cA, 20, .inl (fun _ => 0))), ((u0 2), .inl (cA, 20, .inl (fun _ => 0))), ((u0 3), .inl (cA, 14, .inl (fun _ => 0))), (q0, .inl (cA, 256, .inl (fun _ => 0)))] := hD
  refine W.widen (k := 14) (n := 495) (Nat.le_of_ble_eq_true rfl) (Nat.le_of_ble_eq_true rfl) ?_
  refine va_putF (D := (dC, dI)) (ci := 4) (v := .ref q0) (ty := .array .int) (C := RX4) (T := TX4) (N := 6) hx hb hts ix_uw4 tyX4 tyX4_ok nmX4 hown hK hP hD hS 0 rfl rfl 4 (by decide) (hts (.fieldLink RX4 37 "ColdGrid" "row" "[I") (ix_wd_in (j := 136) (by decide +kernel))) (fun _ h9 => h9) rfl hin rfl (by decide +kernel) rfl rfl (Nat.le_of_ble_eq_true rfl) dX4_init_54 (fun H locs hP hD hS => ?_)
  have hP : va_P (dC, dI) vwCl [(h0, .inr (4, [.ref o3, .ref o2, .ref o1, .ref o0, .ref q0, .null])), (o3, .inr (3, [.ref (u3 0), .ref (u3 1), .int 4, .int 0])), ((u3 0), .inl (cA, 64, .inl (fun _ => 0))), ((u3 1), .inl (cA, 64, .inl (fun _ => 0))), (o2, .inr (2, [.ref (u2 0), .ref (u2 1), .int 0])), ((u2 0), .inl (cA, 6, .inl (fun _ => 0))), ((u2 1), .inl (cA, 6, .inl (fun _ => 0))), (o1, .inr (1, [.ref (u1 0), .int 0])), ((u1 0), .inl (cA, 8, .inl (fun _ => 0))), (o0, .inr (0, [.ref (u0 0), .ref (u0 1), .ref (u0 2), .ref (u0 3), .int 0, .int 0, .int 0, .int 0])), ((u0 0), .inl (cA, 20, .inl (fun _ => 0))), ((u0 1), .inl (cA, 20, .inl (fun _ => 0))), ((u0 2), .inl (cA, 20, .inl (fun _ => 0))), ((u0 3), .inl (cA, 14, .inl (fun _ => 0))), (q0, .inl (cA, 256, .inl (fun _ => 0)))] H := hP
  have hD : va_D A [(h0, .inr (4, [.ref o3, .ref o2, .ref o1, .ref o0, .ref q0, .null])), (o3, .inr (3, [.ref (u3 0), .ref (u3 1), .int 4, .int 0])), ((u3 0), .inl (cA, 64, .inl (fun _ => 0))), ((u3 1), .inl (cA, 64, .inl (fun _ => 0))), (o2, .inr (2, [.ref (u2 0), .ref (u2 1), .int 0])), ((u2 0), .inl (cA, 6, .inl (fun _ => 0))), ((u2 1), .inl (cA, 6, .inl (fun _ => 0))), (o1, .inr (1, [.ref (u1 0), .int 0])), ((u1 0), .inl (cA, 8, .inl (fun _ => 0))), (o0, .inr (0, [.ref (u0 0), .ref (u0 1), .ref (u0 2), .ref (u0 3), .int 0, .int 0, .int 0, .int 0])), ((u0 0), .inl (cA, 20, .inl (fun _ => 0))), ((u0 1), .inl (cA, 20, .inl (fun _ => 0))), ((u0 2), .inl (cA, 20, .inl (fun _ => 0))), ((u0 3), .inl (cA, 14, .inl (fun _ => 0))), (q0, .inl (cA, 256, .inl (fun _ => 0)))] := hD
  refine lv_aload_n hx hb dX4_init_57 rfl (lv_at hl 0 rfl) ?_
  refine lv_sipush (v := nI 256) hx hb dX4_init_58 (by decide) ?_
  refine ix_newa hx hb harr hK hP hD hS hA 256 (by decide) (Nat.le_of_ble_eq_true rfl) (Nat.le_of_ble_eq_true rfl) dX4_init_61 (fun q1 H hP hD hS => ?_)
  have hP : va_P (dC, dI) vwCl [(h0, .inr (4, [.ref o3, .ref o2, .ref o1, .ref o0, .ref q0, .null])), (o3, .inr (3, [.ref (u3 0), .ref (u3 1), .int 4, .int 0])), ((u3 0), .inl (cA, 64, .inl (fun _ => 0))), ((u3 1), .inl (cA, 64, .inl (fun _ => 0))), (o2, .inr (2, [.ref (u2 0), .ref (u2 1), .int 0])), ((u2 0), .inl (cA, 6, .inl (fun _ => 0))), ((u2 1), .inl (cA, 6, .inl (fun _ => 0))), (o1, .inr (1, [.ref (u1 0), .int 0])), ((u1 0), .inl (cA, 8, .inl (fun _ => 0))), (o0, .inr (0, [.ref (u0 0), .ref (u0 1), .ref (u0 2), .ref (u0 3), .int 0, .int 0, .int 0, .int 0])), ((u0 0), .inl (cA, 20, .inl (fun _ => 0))), ((u0 1), .inl (cA, 20, .inl (fun _ => 0))), ((u0 2), .inl (cA, 20, .inl (fun _ => 0))), ((u0 3), .inl (cA, 14, .inl (fun _ => 0))), (q0, .inl (cA, 256, .inl (fun _ => 0))), (q1, .inl (cA, 256, .inl (fun _ => 0)))] H := hP
  have hD : va_D A [(h0, .inr (4, [.ref o3, .ref o2, .ref o1, .ref o0, .ref q0, .null])), (o3, .inr (3, [.ref (u3 0), .ref (u3 1), .int 4, .int 0])), ((u3 0), .inl (cA, 64, .inl (fun _ => 0))), ((u3 1), .inl (cA, 64, .inl (fun _ => 0))), (o2, .inr (2, [.ref (u2 0), .ref (u2 1), .int 0])), ((u2 0), .inl (cA, 6, .inl (fun _ => 0))), ((u2 1), .inl (cA, 6, .inl (fun _ => 0))), (o1, .inr (1, [.ref (u1 0), .int 0])), ((u1 0), .inl (cA, 8, .inl (fun _ => 0))), (o0, .inr (0, [.ref (u0 0), .ref (u0 1), .ref (u0 2), .ref (u0 3), .int 0, .int 0, .int 0, .int 0])), ((u0 0), .inl (cA, 20, .inl (fun _ => 0))), ((u0 1), .inl (cA, 20, .inl (fun _ => 0))), ((u0 2), .inl (cA, 20, .inl (fun _ => 0))), ((u0 3), .inl (cA, 14, .inl (fun _ => 0))), (q0, .inl (cA, 256, .inl (fun _ => 0))), (q1, .inl (cA, 256, .inl (fun _ => 0)))] := hD
  refine W.widen (k := 15) (n := 751) (Nat.le_of_ble_eq_true rfl) (Nat.le_of_ble_eq_true rfl) ?_
  refine va_putF (D := (dC, dI)) (ci := 4) (v := .ref q1) (ty := .array .int) (C := RX4) (T := TX4) (N := 6) hx hb hts ix_uw4 tyX4 tyX4_ok nmX4 hown hK hP hD hS 0 rfl rfl 5 (by decide) (hts (.fieldLink RX4 41 "ColdGrid" "otherRow" "[I") (ix_wd_in (j := 137) (by decide +kernel))) (fun _ h9 => h9) rfl hin rfl (by decide +kernel) rfl rfl (Nat.le_of_ble_eq_true rfl) dX4_init_63 (fun H locs hP hD hS => ?_)
  have hP : va_P (dC, dI) vwCl [(h0, .inr (4, [.ref o3, .ref o2, .ref o1, .ref o0, .ref q0, .ref q1])), (o3, .inr (3, [.ref (u3 0), .ref (u3 1), .int 4, .int 0])), ((u3 0), .inl (cA, 64, .inl (fun _ => 0))), ((u3 1), .inl (cA, 64, .inl (fun _ => 0))), (o2, .inr (2, [.ref (u2 0), .ref (u2 1), .int 0])), ((u2 0), .inl (cA, 6, .inl (fun _ => 0))), ((u2 1), .inl (cA, 6, .inl (fun _ => 0))), (o1, .inr (1, [.ref (u1 0), .int 0])), ((u1 0), .inl (cA, 8, .inl (fun _ => 0))), (o0, .inr (0, [.ref (u0 0), .ref (u0 1), .ref (u0 2), .ref (u0 3), .int 0, .int 0, .int 0, .int 0])), ((u0 0), .inl (cA, 20, .inl (fun _ => 0))), ((u0 1), .inl (cA, 20, .inl (fun _ => 0))), ((u0 2), .inl (cA, 20, .inl (fun _ => 0))), ((u0 3), .inl (cA, 14, .inl (fun _ => 0))), (q0, .inl (cA, 256, .inl (fun _ => 0))), (q1, .inl (cA, 256, .inl (fun _ => 0)))] H := hP
  have hD : va_D A [(h0, .inr (4, [.ref o3, .ref o2, .ref o1, .ref o0, .ref q0, .ref q1])), (o3, .inr (3, [.ref (u3 0), .ref (u3 1), .int 4, .int 0])), ((u3 0), .inl (cA, 64, .inl (fun _ => 0))), ((u3 1), .inl (cA, 64, .inl (fun _ => 0))), (o2, .inr (2, [.ref (u2 0), .ref (u2 1), .int 0])), ((u2 0), .inl (cA, 6, .inl (fun _ => 0))), ((u2 1), .inl (cA, 6, .inl (fun _ => 0))), (o1, .inr (1, [.ref (u1 0), .int 0])), ((u1 0), .inl (cA, 8, .inl (fun _ => 0))), (o0, .inr (0, [.ref (u0 0), .ref (u0 1), .ref (u0 2), .ref (u0 3), .int 0, .int 0, .int 0, .int 0])), ((u0 0), .inl (cA, 20, .inl (fun _ => 0))), ((u0 1), .inl (cA, 20, .inl (fun _ => 0))), ((u0 2), .inl (cA, 20, .inl (fun _ => 0))), ((u0 3), .inl (cA, 14, .inl (fun _ => 0))), (q0, .inl (cA, 256, .inl (fun _ => 0))), (q1, .inl (cA, 256, .inl (fun _ => 0)))] := hD
  have hP9 := hP.sub (ws' := ix_mw (fun i => [h0, o3, o2, o1, o0, q0, q1, (u3 0), (u3 1), (u2 0), (u2 1), (u1 0), (u0 0), (u0 1), (u0 2), (u0 3)].getD i 0) cA (cw 4 0 (fun _ => 0) (fun _ => 0) 0 (fun _ => 0) (fun _ => 0) 0 (fun _ => 0) (fun _ => 0) (fun _ => 0) (fun _ => 0) (fun _ => 0) (fun _ => 0) (fun _ => 0) 0 0 0 0)) [0, 1, 4, 7, 9, 14, 15, 2, 3, 5, 6, 8, 10, 11, 12, 13] rfl
  have hD9 := hD.sub (ws' := ix_mw (fun i => [h0, o3, o2, o1, o0, q0, q1, (u3 0), (u3 1), (u2 0), (u2 1), (u1 0), (u0 0), (u0 1), (u0 2), (u0 3)].getD i 0) cA (cw 4 0 (fun _ => 0) (fun _ => 0) 0 (fun _ => 0) (fun _ => 0) 0 (fun _ => 0) (fun _ => 0) (fun _ => 0) (fun _ => 0) (fun _ => 0) (fun _ => 0) (fun _ => 0) 0 0 0 0)) [0, 1, 4, 7, 9, 14, 15, 2, 3, 5, 6, 8, 10, 11, 12, 13] (by decide) rfl
  exact W.vret hx hb hr (fun t ht hW => ⟨⟨fun i => [h0, o3, o2, o1, o0, q0, q1, (u3 0), (u3 1), (u2 0), (u2 1), (u1 0), (u0 0), (u0 1), (u0 2), (u0 3)].getD i 0, rfl, rfl, by rw [ht]; exact hP9, va_K.moved hW.alike hK, hD9⟩, hS.F ht⟩) hS.2.2 dX4_init_66
