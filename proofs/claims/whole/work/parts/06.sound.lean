/-! The small machine is sound: what it answers, the machine answers. -/
def ix_v (ad : Nat → Nat) : ix_V → Value
  | .inl x => .int x
  | .inr q => .ref (ad q)
def ix_ce (ad : Nat → Nat) (cA : ClassId) : ix_C → va_E
  | .inl (n, f) => .inl (cA, n, .inl f)
  | .inr (ci, fs) => .inr (ci, fs.map (ix_v ad))
def ix_mw (ad : Nat → Nat) (cA : ClassId) (w : ix_W) : va_W := w.mapIdx (fun q c => (ad q, ix_ce ad cA c))
theorem ix_v_cat (ad : Nat → Nat) (v : ix_V) : (ix_v ad v).category = 1 := by cases v <;> rfl
theorem ix_mw_at {ad : Nat → Nat} {cA : ClassId} {w : ix_W} {q : Nat} {c : ix_C} (h : w[q]? = some c) : (ix_mw ad cA w)[q]? = some (ad q, ix_ce ad cA c) := by
  unfold ix_mw
  rw [List.getElem?_mapIdx, h]
  rfl
theorem ix_mw_set (ad : Nat → Nat) (cA : ClassId) (w : ix_W) (q : Nat) (c : ix_C) : ix_mw ad cA (w.set q c) = (ix_mw ad cA w).set q (ad q, ix_ce ad cA c) := by
  apply List.ext_getElem?
  intro i
  unfold ix_mw
  rw [List.getElem?_mapIdx, List.getElem?_set, List.getElem?_set]
  by_cases hi : q = i
  · subst hi
    rw [if_pos rfl, if_pos rfl]
    by_cases hl : q < w.length
    · rw [if_pos hl, if_pos (by rw [List.length_mapIdx]; exact hl)]; rfl
    · rw [if_neg hl, if_neg (by rw [List.length_mapIdx]; exact hl)]; rfl
  · rw [if_neg hi, if_neg hi, List.getElem?_mapIdx]
/-- the locals -/
def ix_lv (ad : Nat → Nat) (ls : Array Slot) (nL : Nat) (L : ix_L) : Prop := L.length = nL ∧ ls.size = nL ∧ lv_wf ls ∧ ∀ (i : Nat) (v : ix_V), L[i]? = some (some v) → ls[i]? = some (.val (ix_v ad v))
def ix_as (ad : Nat → Nat) (L : ix_L) : List (Nat × Value) := (List.range L.length).filterMap (fun i => match L[i]? with
  | some (some v) => some (i, ix_v ad v)
  | _ => none)
theorem ix_as_in {ad : Nat → Nat} {L : ix_L} {q : Nat × Value} (h : q ∈ ix_as ad L) : ∃ v : ix_V, L[q.1]? = some (some v) ∧ q.2 = ix_v ad v := by
  unfold ix_as at h
  obtain ⟨i, -, hi⟩ := List.mem_filterMap.mp h
  split at hi
  · rename_i v hv
    cases hi
    exact ⟨v, hv, rfl⟩
  · cases hi
theorem ix_as_of {ad : Nat → Nat} {L : ix_L} {i : Nat} {v : ix_V} (h : L[i]? = some (some v)) : (i, ix_v ad v) ∈ ix_as ad L := by
  unfold ix_as
  refine List.mem_filterMap.mpr ⟨i, List.mem_range.mpr (List.getElem?_eq_some_iff.mp h).1, ?_⟩
  rw [h]
theorem ix_lv.has {ad : Nat → Nat} {ls : Array Slot} {nL : Nat} {L : ix_L} (h : ix_lv ad ls nL L) : lv_has ls nL (ix_as ad L) := ⟨h.2.1, h.2.2.1, fun q hq => by
  obtain ⟨v, h1, h2⟩ := ix_as_in hq
  rw [h2]
  exact h.2.2.2 _ _ h1⟩
theorem ix_lv.back {ad : Nat → Nat} {ls ls2 : Array Slot} {nL : Nat} {L : ix_L} {i : Nat} {x : ix_V} (h : ix_lv ad ls nL L) (hi : i < nL) (h2 : lv_has ls2 nL ((i, ix_v ad x) :: (ix_as ad L).filter (fun q => !(q.1 == i) && !(q.1 + 1 == i && q.2.category == 2)))) : ix_lv ad ls2 nL (L.set i (some x)) := by
  refine ⟨by rw [List.length_set]; exact h.1, h2.1, h2.2.1, fun j v hj => ?_⟩
  rw [List.getElem?_set] at hj
  by_cases hij : i = j
  · subst hij
    rw [if_pos rfl, if_pos (by rw [h.1]; exact hi)] at hj
    cases hj
    exact h2.2.2 _ List.mem_cons_self
  · rw [if_neg hij] at hj
    refine h2.2.2 (j, ix_v ad v) (List.mem_cons_of_mem _ (List.mem_filter.mpr ⟨ix_as_of hj, ?_⟩))
    have e1 : (j == i) = false := by simpa using fun q : j = i => hij q.symm
    simp [e1, ix_v_cat]
/-- the nest's words -/
def ix_isN : Cond → Bool
  | .methodLinkNest .. => true
  | _ => false
def ix_NW (U : State) : Prop := ∀ w ∈ lw_tbl, ix_isN w = true → va_Nw w U
theorem ix_NW.warm {s U : State} (hW : s.WarmedH U.vm) (h : ix_NW s) : ix_NW U := by
  intro w hw hi
  have h1 := h w hw hi
  cases w <;> first | exact va_Nw.warmM hW h1 | (simp [ix_isN] at hi; done)
theorem ix_NW.same {u U : State} (hvm : u.vm = U.vm) (h : ix_NW u) : ix_NW U := by
  intro w hw hi
  have h1 := h w hw hi
  cases w <;> first | exact va_Nw.same rfl hvm h1 | (simp [ix_isN] at hi; done)
def ix_rm (k : Nat) : Room := { frames := ix_rk k, cells := 0, slots := 0, locals := ix_lr k }
def ix_ws (k : Nat) : List Cond := .code (ix_y k) (ix_c k) (ix_ml k) (ix_r k) :: ix_gw
/-- what holds in a method's body -/
def ix_X (p : Program) (s : State) (m : MethodId) (args : Array Value) (meth : Method) (c : Code) (k : Nat) (dC : Nat → ClassId) (dI : Nat → Nat → Nat) (cA : ClassId) (A : Nat → Prop) : Prop :=
  p.tables.exec = Jvm.exec ∧ c.code = ix_c k ∧ c.maxLocals = ix_ml k ∧ meth.sig.returnType = ix_r k ∧ meth.locks = false ∧ s.vm.findClass (ix_y k).cls = some m.cls ∧ (∀ w ∈ ix_gw, w.before args s = true) ∧ va_K (dC, dI) vwCl [(cA, .int)] s ∧ ix_NW s ∧ (∀ q : Nat, s.heap.size ≤ q → A q) ∧ k < ix_N
/-- a method's end -/
def ix_Q (ad : Nat → Nat) (cA : ClassId) (dC : Nat → ClassId) (dI : Nat → Nat → Nat) (A : Nat → Prop) (r : Option ix_V) (w1 : ix_W) : Array Value → State → Outcome → State → Prop := fun _ st oc t =>
  oc = .returned (r.map (ix_v ad)) ∧ (va_P (dC, dI) vwCl (ix_mw ad cA w1) t.heap ∧ va_K (dC, dI) vwCl [(cA, .int)] t ∧ va_D A (ix_mw ad cA w1)) ∧ va_F A st t
def ix_Snd (l : Launch) (n : Nat) : Prop := ∀ (k pc : Nat) (L : ix_L) (st : List ix_V) (w : ix_W) (r : Option ix_V) (w1 : ix_W), ix_run n k pc L st w = some (r, w1) →
  ∀ (p : Program) (e : Env) (s : State) (m : MethodId) (args : Array Value) (below : List Frame) (meth : Method) (c : Code) (ad : Nat → Nat) (cA : ClassId) (dC : Nat → ClassId) (dI : Nat → Nat → Nat) (A : Nat → Prop), ix_X p s m args meth c k dC dI cA A →
  ∀ (H : Heap) (locs : List Loc) (ls : Array Slot), va_P (dC, dI) vwCl (ix_mw ad cA w) H → va_D A (ix_mw ad cA w) → va_S A s.heap H locs → ix_lv ad ls (ix_ml k) L →
  W p l e (ix_rm k) s m args below meth c H locs 0 0 (MQ below (ix_Q ad cA dC dI A r w1) args s 0 0 A) (F0 m pc ls (st.map (ix_v ad)))
/-- a contract's frame: the method of the class plainly named, or no native row -/
theorem ix_ofW {l : Launch} {y : MethodName} {ws ws' : List Cond} {rm : Room} {Pc : Array Value → State → Prop} {Qc : Array Value → State → Outcome → State → Prop} {mc ms : Nat} {free : Addr → Prop} {cc : ByteArray} {maxL : Nat} {ret : Option FieldType}
    (hy : plainFor y = true) (hw : ws = Cond.code y cc maxL ret :: ws')
    (body : ∀ p e s m args below meth c s₁, BodyLoose p l y (headSpec ws rm) cc maxL ret e s m args below meth c s₁ → c.maxLocals = maxL → Pc args s →
      W p l e (headSpec ws rm).room s m args below meth c s.heap [] 0 0 (MQ below Qc args s mc ms free) (entryFrame m args maxL)) : Met l y ws rm Pc Qc mc ms free := by
  refine MetFree.of_bodySF (code := cc) (maxLocals := maxL) (ret := ret) hy ?_ ?_
  · intro args s m h hn
    obtain ⟨meth, c, h1, h2, h3, h4, h5, h6, -, -⟩ := Cond.code_spec hn (atoms_spec (ws := ws) h _ (by rw [hw]; exact List.mem_cons_self))
    exact ⟨meth, c, h1, h2, h3, h4, h5, h6⟩
  · intro p e s m args below meth c s₁ B hml hP _
    have hh0 : s₁.heap = s.heap := by rw [B.state]; rfl
    obtain ⟨t, a1, o, b1, b2, b3⟩ := body p e s m args below meth c s₁ B hml hP s₁ hh0 (Stand.of_body B)
    exact ⟨t, o, a1, b1, b2, ⟨b3.1, b3.2⟩⟩
theorem ix_sl (ad : Nat → Nat) (as : List ix_V) : (lg_sl (as.map (ix_v ad))).length = as.length := by
  induction as with
  | nil => rfl
  | cons a r ih =>
    unfold lg_sl at ih ⊢
    rw [List.map_cons, List.flatMap_cons, List.length_append, ih, if_neg (by rw [ix_v_cat]; decide)]
    simp
    omega
theorem ix_args {ad : Nat → Nat} : ∀ (as : List ix_V) (o i : Nat) (v : ix_V), as[i]? = some v → (o + i, ix_v ad v) ∈ lv_args o (as.map (ix_v ad)) := by
  intro as
  induction as with
  | nil => intro o i v h; simp at h
  | cons a r ih =>
    intro o i v h
    rw [List.map_cons, lv_args]
    cases i with
    | zero =>
      rw [List.getElem?_cons_zero] at h
      cases h
      exact List.mem_cons_self
    | succ i =>
      rw [List.getElem?_cons_succ] at h
      have h1 := ih (o + 1) i v h
      refine List.mem_cons_of_mem _ ?_
      rw [ix_v_cat]
      rw [show o + (i + 1) = o + 1 + i by omega]
      exact h1
/-- a contract out of a run -/
theorem ix_met {l : Launch} {n : Nat} (hS : ix_Snd l n) {k : Nat} {as : List ix_V} {w w1 : ix_W} {r : Option ix_V} (hr : ix_run n k 0 (ix_en k as) [] w = some (r, w1)) (hk : k < ix_N) (hn : as.length ≤ ix_ml k) (ad : Nat → Nat) (cA : ClassId) (dC : Nat → ClassId) (dI : Nat → Nat → Nat) (sz : Nat) :
    Met l (ix_y k) (ix_ws k) (ix_rm k) (va_Pc (as.map (ix_v ad)) (fun U => U.heap.size = sz ∧ va_P (dC, dI) vwCl (ix_mw ad cA w) U.heap ∧ va_K (dC, dI) vwCl [(cA, .int)] U ∧ va_D (fun _ => True) (ix_mw ad cA w) ∧ ix_NW U)) (ix_Q ad cA dC dI (va_A (ix_mw ad cA w) sz) r w1) 0 0 (va_A (ix_mw ad cA w) sz) := by
  have hmb := ix_mb hk
  refine ix_ofW (cc := ix_c k) (maxL := ix_ml k) (ret := ix_r k) ?_ rfl ?_
  · unfold ix_mB at hmb
    simp only [Bool.and_eq_true] at hmb
    exact hmb.1.2
  · intro p e s m args below meth c s₁ B hml hv
    obtain ⟨rfl, hsz, hP, hK, hD0, hN⟩ := hv
    have hts := atoms_spec (ws := ix_ws k) B.pre
    have hown : s.vm.findClass (ix_y k).cls = some m.cls := findClass_of_methodNamed B.named
    subst hsz
    have hD := hD0.self (sz := s.heap.size)
    have hl := lv_entry (as.map (ix_v ad)) (n := ix_ml k) (by rw [ix_sl]; exact hn)
    rw [lg_entry_eq]
    generalize (lg_sl (as.map (ix_v ad)) ++ List.replicate (ix_ml k - (lg_sl (as.map (ix_v ad))).length) Slot.unset).toArray = ls at hl ⊢
    refine hS k 0 (ix_en k as) [] w r w1 hr p e s m _ below meth c ad cA dC dI _ ⟨B.exec, B.bytes, hml, B.returns, B.notSynchronized, hown, fun w hw => hts w (List.mem_cons_of_mem _ hw), hK, hN, fun q h => Or.inr h, hk⟩ s.heap [] ls hP hD va_S.rf ⟨?_, hl.1, hl.2.1, fun i v hi => ?_⟩
    · unfold ix_en
      rw [List.length_append, List.length_map, List.length_replicate]
      omega
    · have h1 : as[i]? = some v := by
        unfold ix_en at hi
        by_cases hlt : i < as.length
        · rw [List.getElem?_append_left (by rw [List.length_map]; exact hlt), List.getElem?_map] at hi
          cases ha : as[i]? with
          | none => rw [ha] at hi; cases hi
          | some u => rw [ha] at hi; cases hi; rfl
        · rw [List.getElem?_append_right (by rw [List.length_map]; omega)] at hi
          have := List.mem_of_getElem? hi
          rw [List.mem_replicate] at this
          exact absurd this.2 (by simp)
      have h2 := ix_args (ad := ad) as 0 i v h1
      rw [Nat.zero_add] at h2
      exact hl.2.2 _ h2
