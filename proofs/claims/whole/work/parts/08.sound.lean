/-! the small machine is sound: calls, returns, whole runs -/
theorem ix_call {p : Program} {l : Launch} {e : Env} {R : Room} {s : State} {m : MethodId} {args : Array Value} {below : List Frame} {meth : Method} {c : Code} {H : Heap} {locs : List Loc} {Q : State → Prop} {pc : Nat} {ls : Array Slot} {rest st0 : List Value} {a : Array Value} {A0 A1 : Nat → Prop} {H0 : Heap} {free : Addr → Prop}
    {ad : Nat → Nat} {cA : ClassId} {dC : Nat → ClassId} {dI : Nat → Nat → Nat} {r : Option ix_V} {w1 : ix_W} {cells slots : Nat}
    (hr : va_Run p l e R s m args below meth c H locs cells slots 0 0 (F0 m pc ls st0) rest (ix_Q ad cA dC dI A1 r w1 a) free) (hS : va_S A0 H0 H locs) (hA : ∀ q, q < H.size → A1 q → A0 q) (hf : ∀ q, free q → A0 q)
    (kk : ∀ (H1 : Heap) (locs1 : List Loc), va_P (dC, dI) vwCl (ix_mw ad cA w1) H1 → va_D A1 (ix_mw ad cA w1) → H.size ≤ H1.size → (∀ q : Nat, q < H.size → ¬ A1 q → H1[q]? = H[q]?) → va_S A0 H0 H1 locs1 → W p l e R s m args below meth c H1 locs1 cells slots Q (F0 m (pc + 3) ls ((r.map (ix_v ad)).toList ++ rest))) : W p l e R s m args below meth c H locs cells slots Q (F0 m pc ls st0) := by
  intro T hT X
  obtain ⟨v, st₀, t, T', L, h0, X', hL, e1, e2, ⟨hv, ⟨hp1, hp2, hp3⟩, hz, hk⟩, st⟩ := hr T hT X
  have hv : v = r.map (ix_v ad) := by simpa using hv
  subst hv
  rw [h0] at hz hk
  obtain ⟨t2, a1, b1⟩ := kk T'.heap (locs ++ L) (by rw [e1]; exact hp1) hp3 (by rw [e1]; exact hz) (fun q h1 h2 => by rw [e1]; exact hk q h1 h2)
    ⟨Nat.le_trans hS.1 (by rw [e1]; exact hz), fun q h1 h2 => by rw [e1, hk q (Nat.lt_of_lt_of_le h1 hS.1) (fun z => h2 (hA q (Nat.lt_of_lt_of_le h1 hS.1) z))]; exact hS.2.1 q h1 h2, fun q hq => by
      rcases List.mem_append.mp hq with h | h
      · exact hS.2.2 q h
      · exact hf _ (hL q h)⟩ T' rfl X'
  exact ⟨t2, st t2 a1, b1⟩
theorem ix_gw_good {w : Cond} (h : w ∈ ix_gw) : (w.onTables && w.keeps) = true ∨ ∃ ty, w = .arrayClass ty := good_of_word (List.mem_filter.mp h).2
theorem ix_good {k : Nat} (hc : .code (ix_y k) (ix_c k) (ix_ml k) (ix_r k) ∈ ix_gw) : GoodIn ix_gw (ix_ws k) := by
  intro w hw
  rcases List.mem_cons.mp hw with h | h
  · rw [h]; exact ⟨hc, ix_gw_good hc⟩
  · exact ⟨h, ix_gw_good h⟩
theorem ix_gd_of {k k2 r : Nat} (h : ix_gd k k2 r = true) : ix_rk k2 + 1 ≤ ix_rk k ∧ 8 + (ix_ml k2 + 11) + ix_lr k2 ≤ ix_lr k ∧ r ≤ 8 ∧ ix_na k2 ≤ ix_ml k2 := by
  unfold ix_gd at h
  simp only [Bool.and_eq_true] at h
  exact ⟨Nat.le_of_ble_eq_true h.1.1.1, Nat.le_of_ble_eq_true h.1.1.2, Nat.le_of_ble_eq_true h.1.2, Nat.le_of_ble_eq_true h.2⟩
theorem ix_sum (ad : Nat → Nat) (r : List ix_V) : ((r.map (ix_v ad)).map fun v => v.category).sum = r.length := by
  induction r with
  | nil => rfl
  | cons a r ih => rw [List.map_cons, List.map_cons, List.sum_cons, ih, ix_v_cat, List.length_cons]; omega
/-- what a method's row says -/
theorem ix_mbs {k : Nat} (hk : k < ix_N) : .code (ix_y k) (ix_c k) (ix_ml k) (ix_r k) ∈ ix_gw ∧ .initialized (ix_y k).cls ∈ ix_gw ∧ ((ix_y k).cls ≠ "java/lang/invoke/MethodHandle" ∧ (ix_y k).cls ≠ "java/lang/invoke/VarHandle") ∧ (ix_r k = if ix_rt k = 0 then none else if ix_rt k = 1 then some .int else some .boolean) ∧ ix_rt k ≤ 2 ∧ (ix_ci k = 99 → .static (ix_y k) ∈ ix_gw ∧ (parseMethodDescriptor (ix_y k).desc).map (fun d => d.parameters.length) = some (ix_na k)) ∧ (ix_ci k ≠ 99 → .instanceMethod (ix_y k) ∈ ix_gw ∧ .selects (ix_y k).cls (ix_y k) (ix_y k) ∈ ix_gw ∧ (parseMethodDescriptor (ix_y k).desc).map (fun d => d.parameters.length + 1) = some (ix_na k) ∧ ∃ q : vw_C, vwCl[ix_ci k]? = some q ∧ q.1 = (ix_y k).cls) := by
  have h := ix_mb hk
  unfold ix_mB at h
  simp only [Bool.and_eq_true, decide_eq_true_eq] at h
  obtain ⟨⟨⟨⟨⟨⟨h1, h2⟩, h3⟩, h4⟩, h5⟩, h6⟩, h7⟩ := h
  refine ⟨ix_wd_in h1, ix_wd_in h2, h3, h4, h5, fun hc => ?_, fun hc => ?_⟩
  · rw [if_pos hc] at h7
    simp only [Bool.and_eq_true, decide_eq_true_eq] at h7
    exact ⟨ix_wd_in h7.1, h7.2⟩
  · rw [if_neg hc] at h7
    simp only [Bool.and_eq_true, decide_eq_true_eq] at h7
    refine ⟨ix_wd_in h7.1.1.1, ix_wd_in h7.1.1.2, h7.1.2, ?_⟩
    have h8 := h7.2
    split at h8
    · rename_i C T N hC
      exact ⟨_, hC, of_decide_eq_true h8⟩
    · cases h8
set_option maxHeartbeats 4000000 in
theorem ix_sound (l : Launch) : ∀ n, ix_Snd l n := by
  intro n
  induction n with
  | zero => intro k pc L st w r w1 h; exact absurd h (by simp [ix_run])
  | succ n ih =>
    intro k pc L st w r w1 h p e s m args below meth c ad cA dC dI A X H locs ls hP hD hS hl
    rw [ix_run] at h
    cases he : ix_lk k pc with
    | none => rw [he] at h; cases h
    | some E =>
      rw [he] at h
      dsimp only at h
      split at h
      · rename_i hkd
        obtain ⟨z, h1, h2⟩ := Option.bind_eq_some_iff.mp h
        exact ix_step X he hkd (pc1 := z.1) (L1 := z.2.1) (st1 := z.2.2.1) (w1 := z.2.2.2) h1 hP hD hS hl (fun H1 locs1 ls1 hP1 hD1 hS1 hl1 => ih _ _ _ _ _ _ _ h2 p e s m args below meth c ad cA dC dI A X H1 locs1 ls1 hP1 hD1 hS1 hl1)
      · rename_i hkd
        obtain ⟨hx, hb, hml, hr, hlk, hown, hts, hK, hN, hA, hkN⟩ := X
        obtain ⟨-, -, -, hrt, -, -⟩ := ix_mbs hkN
        obtain ⟨hdg, hok⟩ := ix_ok he
        obtain ⟨i, nx, a, b, j, v⟩ := E
        have hi : i = .ireturn := by
          cases i <;> first | rfl | (simp [ix_kd] at hkd; done)
        subst hi
        simp only [ix_ln] at hdg
        unfold ix_iret at h
        split at h
        · rename_i x
          split at h
          · rename_i hc
            cases h
            rw [hrt] at hr
            have fin : ∀ t : State, t.heap = H → s.WarmedH t.vm → ix_Q ad cA dC dI A (some (.inl x)) w args s (.returned (some (.int x))) t := fun t ht hW => ⟨rfl, ⟨by rw [ht]; exact hP, va_K.moved hW.alike hK, hD⟩, hS.F ht⟩
            rcases hc with h1 | ⟨h1, h2⟩
            · rw [if_neg (by rw [h1]; decide), if_pos h1] at hr
              exact W.iret (v := x) hx hb hr fin hS.2.2 hdg hlk
            · rw [if_neg (by rw [h1]; decide), if_neg (by rw [h1]; decide)] at hr
              exact W.zret (v := x) hx hb hr (by rcases h2 with rfl | rfl <;> rfl) fin hS.2.2 hdg hlk
          · cases h
        · cases h
      · rename_i hkd
        obtain ⟨hx, hb, hml, hr, hlk, hown, hts, hK, hN, hA, hkN⟩ := X
        obtain ⟨-, -, -, hrt, -, -⟩ := ix_mbs hkN
        obtain ⟨hdg, hok⟩ := ix_ok he
        obtain ⟨i, nx, a, b, j, v⟩ := E
        have hi : i = .return_ := by
          cases i <;> first | rfl | (simp [ix_kd] at hkd; done)
        subst hi
        simp only [ix_ln] at hdg
        unfold ix_vret at h
        split at h
        · split at h
          · rename_i hc
            cases h
            rw [hrt, if_pos hc] at hr
            exact W.vret hx hb hr (fun t ht hW => ⟨rfl, ⟨by rw [ht]; exact hP, va_K.moved hW.alike hK, hD⟩, hS.F ht⟩) hS.2.2 hdg hlk
          · cases h
        · cases h
      · rename_i hkd
        have X0 := X
        obtain ⟨hx, hb, hml, hr, hlk, hown, hts, hK, hN, hA, hkN⟩ := X
        obtain ⟨hdg, hok⟩ := ix_ok he
        obtain ⟨z, h1, h2⟩ := Option.bind_eq_some_iff.mp h
        obtain ⟨y, h3, h4⟩ := Option.bind_eq_some_iff.mp h2
        obtain ⟨i, nx, a, b, j, v⟩ := E
        obtain ⟨ix, hi⟩ : ∃ ix, i = .invokestatic ix := by
          cases i <;> first | exact ⟨_, rfl⟩ | (simp [ix_kd] at hkd; done)
        subst hi
        simp only [ix_ln] at hdg
        simp only [ix_okX, Bool.and_eq_true, decide_eq_true_eq] at hok
        dsimp only at h1 h3 h4
        obtain ⟨⟨hnx, haN⟩, hlink⟩ := hok
        unfold ix_cs at h1
        split at h1
        · rename_i hg
          cases h1
          obtain ⟨hg1, hg2, hg3⟩ := hg
          obtain ⟨g1, g2, g3, g4⟩ := ix_gd_of hg3
          obtain ⟨b1, b2, b3, -, -, b5, -⟩ := ix_mbs haN
          obtain ⟨b6, b7⟩ := b5 hg2
          have hlen : (st.take (ix_na a)).reverse.length = ix_na a := by rw [List.length_reverse]; exact hg1
          have hM := ix_met ih (r := y.1) (w1 := y.2) h3 haN (by rw [hlen]; exact g4) ad cA dC dI H.size
          have hstk : st.map (ix_v ad) = ((st.take (ix_na a)).reverse.map (ix_v ad)).reverse ++ (st.drop (ix_na a)).map (ix_v ad) := by
            rw [← List.map_reverse, List.reverse_reverse, ← List.map_append, List.take_append_drop]
          have hblind : FrameBlind (va_Pc ((st.take (ix_na a)).reverse.map (ix_v ad)) (fun U => U.heap.size = H.size ∧ va_P (dC, dI) vwCl (ix_mw ad cA w) U.heap ∧ va_K (dC, dI) vwCl [(cA, .int)] U ∧ va_D (fun _ => True) (ix_mw ad cA w) ∧ ix_NW U)) := fun a U g mk q => by
            obtain ⟨q0, q1, qP, qK, qD, qN⟩ := q
            exact ⟨q0, q1, qP, va_K.moved (u := U) (U := U.calling g mk a) (Vm.Alike.refl U.vm) qK, qD, ix_NW.same (u := U) (U := U.calling g mk a) rfl qN⟩
          have hpre : PreS s H (va_Pc ((st.take (ix_na a)).reverse.map (ix_v ad)) (fun U => U.heap.size = H.size ∧ va_P (dC, dI) vwCl (ix_mw ad cA w) U.heap ∧ va_K (dC, dI) vwCl [(cA, .int)] U ∧ va_D (fun _ => True) (ix_mw ad cA w) ∧ ix_NW U)) ((st.take (ix_na a)).reverse.map (ix_v ad)) := ⟨hblind, fun U hU hW => ⟨rfl, by rw [hU], by rw [hU]; exact hP, va_K.moved hW.alike hK, hD.weaken (fun _ _ _ _ => trivial), hN.warm hW⟩⟩
          have hF : ∀ q, va_A (ix_mw ad cA w) H.size q → A q := by
            intro q hq
            rcases hq with ⟨k1, e1, hq⟩ | hq
            · exact hD.2 k1 _ hq
            · exact hA q (Nat.le_trans hS.1 hq)
          have hrun : va_Run p l e (ix_rm k) s m args below meth c H locs 0 0 0 0 (F0 m pc ls (st.map (ix_v ad))) ((st.drop (ix_na a)).map (ix_v ad)) (ix_Q ad cA dC dI (va_A (ix_mw ad cA w) H.size) y.1 y.2 ((st.take (ix_na a)).reverse.map (ix_v ad)).toArray) (va_A (ix_mw ad cA w) H.size) := by
            by_cases hb1 : b = 1
            · rw [if_pos hb1] at hlink
              refine va_runSN (n := ix_na a) (bytes := ix_c a) (maxL := ix_ml a) (ret := ix_r a) (nL := ix_ml k) ⟨hx, hb, hml, hown, hts⟩ hM ⟨va_cnB (ix_na a) hts (ix_good b1) rfl rfl rfl (hN _ (ix_wn_in hlink) rfl) (hts _ b2) ⟨b3.1, b3.2, b7⟩ ⟨g1, g2⟩, hts _ b6, trivial⟩ hpre rfl (by rw [List.length_map]; exact hlen) hl.2.1 hstk (lv_room (by rw [ix_sum]; exact g3)) hdg ⟨Nat.le_refl 0, Nat.le_refl 0⟩
            · rw [if_neg hb1] at hlink
              refine va_runS (n := ix_na a) (bytes := ix_c a) (maxL := ix_ml a) (ret := ix_r a) (nL := ix_ml k) ⟨hx, hb, hml, hown, hts⟩ hM ⟨callB_of (ix_na a) hts (ix_good b1) rfl rfl rfl (hts _ b2) (hts _ (ix_wd_in hlink)) ⟨b3.1, b3.2, b7⟩ ⟨g1, g2⟩, hts _ b6⟩ hpre rfl (by rw [List.length_map]; exact hlen) hl.2.1 hstk (lv_room (by rw [ix_sum]; exact g3)) hdg ⟨Nat.le_refl 0, Nat.le_refl 0⟩
          refine ix_call hrun hS (fun q _ h => hF q h) hF (fun H1 locs1 hP1 hD1 hz1 hk1 hS1 => ?_)
          subst hnx
          have hstk2 : (y.1.map (ix_v ad)).toList ++ (st.drop (ix_na a)).map (ix_v ad) = (y.1.toList ++ st.drop (ix_na a)).map (ix_v ad) := by
            cases y.1 <;> simp
          rw [hstk2]
          exact ih _ _ _ _ _ _ _ h4 p e s m args below meth c ad cA dC dI A X0 H1 locs1 ls hP1 (hD1.weaken (fun _ q _ h => hF q.1 h)) hS1 hl
        · cases h1
      · rename_i k0 k1 k2 k3
        have X0 := X
        obtain ⟨hx, hb, hml, hr, hlk, hown, hts, hK, hN, hA, hkN⟩ := X
        obtain ⟨hdg, hok⟩ := ix_ok he
        obtain ⟨z, h1, h2⟩ := Option.bind_eq_some_iff.mp h
        obtain ⟨y, h3, h4⟩ := Option.bind_eq_some_iff.mp h2
        obtain ⟨i, nx, a, b, j, v⟩ := E
        obtain ⟨ix, hi⟩ : ∃ ix, i = .invokevirtual ix := by
          cases i <;> first | exact ⟨_, rfl⟩ | exact absurd rfl k0 | exact absurd rfl k1 | exact absurd rfl k2 | exact absurd rfl k3
        subst hi
        simp only [ix_ln] at hdg
        simp only [ix_okX, Bool.and_eq_true, decide_eq_true_eq] at hok
        dsimp only at h1 h3 h4
        obtain ⟨⟨hnx, haN⟩, hlink⟩ := hok
        unfold ix_cv at h1
        split at h1
        · rename_i hg
          obtain ⟨hg1, hg3⟩ := hg
          obtain ⟨g1, g2, g3, g4⟩ := ix_gd_of hg3
          obtain ⟨b1, b2, b3, -, -, -, b5⟩ := ix_mbs haN
          have hlen : (st.take (ix_na a)).reverse.length = ix_na a := by rw [List.length_reverse]; exact hg1
          split at h1
          · rename_i q as has
            split at h1
            · rename_i ci fs hq
              split at h1
              · rename_i hci
                cases h1
                dsimp only at h3 h4
                have hc99 : ix_ci a ≠ 99 := by
                  intro h99
                  obtain ⟨rr, hr1, -⟩ := hP q _ (ix_mw_at hq)
                  have hlt : ci < 6 := (List.getElem?_eq_some_iff.mp hr1).1
                  omega
                obtain ⟨b6, b8, b7, qc, hqc, hqy⟩ := b5 hc99
                rw [has] at hlen
                rw [List.length_cons] at hlen
                have hpar : (parseMethodDescriptor (ix_y a).desc).map (fun d => d.parameters.length) = some as.length := by
                  cases hpd : parseMethodDescriptor (ix_y a).desc with
                  | none => rw [hpd] at b7; cases b7
                  | some d =>
                    rw [hpd] at b7
                    have : d.parameters.length + 1 = ix_na a := Option.some.inj b7
                    show some d.parameters.length = some as.length
                    rw [show d.parameters.length = as.length by omega]
                have hM := ix_met ih (r := y.1) (w1 := y.2) h3 haN (by rw [List.length_cons, hlen]; exact g4) ad cA dC dI H.size
                have hstk : st.map (ix_v ad) = (as.map (ix_v ad)).reverse ++ Value.ref (ad q) :: (st.drop (ix_na a)).map (ix_v ad) := by
                  have e1 : st.take (ix_na a) = as.reverse ++ [.inr q] := by
                    rw [← List.reverse_reverse (st.take (ix_na a)), has, List.reverse_cons]
                  have e2 : st = as.reverse ++ [.inr q] ++ st.drop (ix_na a) := by rw [← e1, List.take_append_drop]
                  have e3 : st.map (ix_v ad) = (as.reverse ++ [(Sum.inr q : ix_V)] ++ st.drop (ix_na a)).map (ix_v ad) := congrArg _ e2
                  rw [e3]
                  simp [ix_v]
                have hblind : FrameBlind (va_Pc ((Sum.inr q :: as).map (ix_v ad)) (fun U => U.heap.size = H.size ∧ va_P (dC, dI) vwCl (ix_mw ad cA w) U.heap ∧ va_K (dC, dI) vwCl [(cA, .int)] U ∧ va_D (fun _ => True) (ix_mw ad cA w) ∧ ix_NW U)) := fun a U g mk q => by
                  obtain ⟨q0, q1, qP, qK, qD, qN⟩ := q
                  exact ⟨q0, q1, qP, va_K.moved (u := U) (U := U.calling g mk a) (Vm.Alike.refl U.vm) qK, qD, ix_NW.same (u := U) (U := U.calling g mk a) rfl qN⟩
                have hpre : PreV s H (ix_y a).cls (ad q) (va_Pc ((Sum.inr q :: as).map (ix_v ad)) (fun U => U.heap.size = H.size ∧ va_P (dC, dI) vwCl (ix_mw ad cA w) U.heap ∧ va_K (dC, dI) vwCl [(cA, .int)] U ∧ va_D (fun _ => True) (ix_mw ad cA w) ∧ ix_NW U)) (as.map (ix_v ad)) := ⟨hblind, by rw [← hqy]; exact va_recv hK hP hqc (by rw [← hci]; exact ix_mw_at hq), fun U hU hW => ⟨rfl, by rw [hU], by rw [hU]; exact hP, va_K.moved hW.alike hK, hD.weaken (fun _ _ _ _ => trivial), hN.warm hW⟩⟩
                have hF : ∀ q, va_A (ix_mw ad cA w) H.size q → A q := by
                  intro q hq
                  rcases hq with ⟨k1, e1, hq⟩ | hq
                  · exact hD.2 k1 _ hq
                  · exact hA q (Nat.le_trans hS.1 hq)
                have hrun : va_Run p l e (ix_rm k) s m args below meth c H locs 0 0 0 0 (F0 m pc ls (st.map (ix_v ad))) ((st.drop (ix_na a)).map (ix_v ad)) (ix_Q ad cA dC dI (va_A (ix_mw ad cA w) H.size) y.1 y.2 (Value.ref (ad q) :: as.map (ix_v ad)).toArray) (va_A (ix_mw ad cA w) H.size) :=
                  va_runV (n := as.length) (bytes := ix_c a) (maxL := ix_ml a) (ret := ix_r a) (nL := ix_ml k) ⟨hx, hb, hml, hown, hts⟩ hM ⟨callB_of as.length hts (ix_good b1) rfl rfl rfl (hts _ b2) (hts _ (ix_wd_in hlink)) ⟨b3.1, b3.2, hpar⟩ ⟨g1, g2⟩, hts _ b6, hts _ b8⟩ hpre rfl (by rw [List.length_map]) hl.2.1 hstk (lv_room (by rw [ix_sum]; exact g3)) hdg ⟨Nat.le_refl 0, Nat.le_refl 0⟩
                refine ix_call hrun hS (fun q _ h => hF q h) hF (fun H1 locs1 hP1 hD1 hz1 hk1 hS1 => ?_)
                subst hnx
                have hstk2 : (y.1.map (ix_v ad)).toList ++ (st.drop (ix_na a)).map (ix_v ad) = (y.1.toList ++ st.drop (ix_na a)).map (ix_v ad) := by
                  cases y.1 <;> simp
                rw [hstk2]
                exact ih _ _ _ _ _ _ _ h4 p e s m args below meth c ad cA dC dI A X0 H1 locs1 ls hP1 (hD1.weaken (fun _ q _ h => hF q.1 h)) hS1 hl
              · cases h1
            · cases h1
          · cases h1
        · cases h1
