/-! A small machine of its own for the methods that make nothing: ints and places, a world as a list of cells. -/
abbrev ix_V : Type := Int32 ⊕ Nat
abbrev ix_C : Type := (Nat × (Nat → Int32)) ⊕ (Nat × List ix_V)
abbrev ix_W : Type := List ix_C
abbrev ix_L : Type := List (Option ix_V)
abbrev ix_S : Type := Nat × ix_L × List ix_V × ix_W
abbrev ix_ml (k : Nat) : Nat := (ix_mt k).1
abbrev ix_rk (k : Nat) : Nat := (ix_mt k).2.1
abbrev ix_lr (k : Nat) : Nat := (ix_mt k).2.2.1
abbrev ix_na (k : Nat) : Nat := (ix_mt k).2.2.2.1
abbrev ix_ci (k : Nat) : Nat := (ix_mt k).2.2.2.2.1
abbrev ix_rt (k : Nat) : Nat := (ix_mt k).2.2.2.2.2
abbrev ix_y (k : Nat) : MethodName := (ix_md k).1
abbrev ix_c (k : Nat) : ByteArray := (ix_md k).2.1
abbrev ix_r (k : Nat) : Option FieldType := (ix_md k).2.2.1
def ix_lk (k pc : Nat) : Option ix_E := (ix_tb k).lookup pc
def ix_push (nx : Nat) (v : Int32) (L : ix_L) (st : List ix_V) (w : ix_W) : Option ix_S := some (nx, L, .inl v :: st, w)
def ix_un (f : Int32 → Int32) (nx : Nat) (L : ix_L) (st : List ix_V) (w : ix_W) : Option ix_S := match st with
  | .inl x :: r => some (nx, L, .inl (f x) :: r, w)
  | _ => none
def ix_bi (f : Int32 → Int32 → Int32) (nx : Nat) (L : ix_L) (st : List ix_V) (w : ix_W) : Option ix_S := match st with
  | .inl y :: .inl x :: r => some (nx, L, .inl (f x y) :: r, w)
  | _ => none
def ix_dv (f : Int32 → Int32 → Int32) (nx : Nat) (L : ix_L) (st : List ix_V) (w : ix_W) : Option ix_S := match st with
  | .inl y :: .inl x :: r => if y = 0 then none else some (nx, L, .inl (f x y) :: r, w)
  | _ => none
def ix_ild (nx a : Nat) (L : ix_L) (st : List ix_V) (w : ix_W) : Option ix_S := match L[a]? with
  | some (some (.inl x)) => some (nx, L, .inl x :: st, w)
  | _ => none
def ix_ald (nx a : Nat) (L : ix_L) (st : List ix_V) (w : ix_W) : Option ix_S := match L[a]? with
  | some (some (.inr x)) => some (nx, L, .inr x :: st, w)
  | _ => none
def ix_ist (nx a : Nat) (L : ix_L) (st : List ix_V) (w : ix_W) : Option ix_S := match st with
  | .inl x :: r => if a < L.length then some (nx, L.set a (some (.inl x)), r, w) else none
  | _ => none
def ix_inc (nx a : Nat) (v : Int32) (L : ix_L) (st : List ix_V) (w : ix_W) : Option ix_S := match L[a]? with
  | some (some (.inl x)) => some (nx, L.set a (some (.inl (x + v))), st, w)
  | _ => none
def ix_t1 (c : Jvm.ClassFile.Cond) (x : Int32) (a nx : Nat) : Nat := match c with
  | .eq => if x = 0 then a else nx
  | .ne => if x = 0 then nx else a
  | .lt => if x < 0 then a else nx
  | .ge => if 0 ≤ x then a else nx
  | .gt => if 0 < x then a else nx
  | .le => if x ≤ 0 then a else nx
def ix_t2 (c : Jvm.ClassFile.Cond) (x y : Int32) (a nx : Nat) : Nat := match c with
  | .eq => if x = y then a else nx
  | .ne => if x = y then nx else a
  | .lt => if x < y then a else nx
  | .ge => if y ≤ x then a else nx
  | .gt => if y < x then a else nx
  | .le => if x ≤ y then a else nx
def ix_br1 (c : Jvm.ClassFile.Cond) (nx a : Nat) (L : ix_L) (st : List ix_V) (w : ix_W) : Option ix_S := match st with
  | .inl x :: r => some (ix_t1 c x a nx, L, r, w)
  | _ => none
def ix_br2 (c : Jvm.ClassFile.Cond) (nx a : Nat) (L : ix_L) (st : List ix_V) (w : ix_W) : Option ix_S := match st with
  | .inl y :: .inl x :: r => some (ix_t2 c x y a nx, L, r, w)
  | _ => none
def ix_get (nx a b : Nat) (L : ix_L) (st : List ix_V) (w : ix_W) : Option ix_S := match st with
  | .inr q :: r => match w[q]? with
    | some (.inr (ci, fs)) => if ci = b then (match fs[a]? with
      | some v => some (nx, L, v :: r, w)
      | none => none) else none
    | _ => none
  | _ => none
def ix_put (nx a b : Nat) (L : ix_L) (st : List ix_V) (w : ix_W) : Option ix_S := match st with
  | .inl x :: .inr q :: r => match w[q]? with
    | some (.inr (ci, fs)) => if ci = b ∧ a < fs.length then some (nx, L, r, w.set q (.inr (ci, fs.set a (.inl x)))) else none
    | _ => none
  | _ => none
def ix_iald (nx : Nat) (L : ix_L) (st : List ix_V) (w : ix_W) : Option ix_S := match st with
  | .inl i :: .inr q :: r => match w[q]? with
    | some (.inl (n, f)) => if i < 0 ∨ n ≤ i.toNatClampNeg then none else some (nx, L, .inl (f i.toNatClampNeg) :: r, w)
    | _ => none
  | _ => none
def ix_iast (nx : Nat) (L : ix_L) (st : List ix_V) (w : ix_W) : Option ix_S := match st with
  | .inl x :: .inl i :: .inr q :: r => match w[q]? with
    | some (.inl (n, f)) => if i < 0 ∨ n ≤ i.toNatClampNeg then none else some (nx, L, r, w.set q (.inl (n, upd f i.toNatClampNeg x)))
    | _ => none
  | _ => none
def ix_alen (nx : Nat) (L : ix_L) (st : List ix_V) (w : ix_W) : Option ix_S := match st with
  | .inr q :: r => match w[q]? with
    | some (.inl (n, _)) => some (nx, L, .inl (Int32.ofNat n) :: r, w)
    | _ => none
  | _ => none
def ix_dup (nx : Nat) (L : ix_L) (st : List ix_V) (w : ix_W) : Option ix_S := match st with
  | v :: r => some (nx, L, v :: v :: r, w)
  | _ => none
def ix_dup2 (nx : Nat) (L : ix_L) (st : List ix_V) (w : ix_W) : Option ix_S := match st with
  | v :: u :: r => some (nx, L, v :: u :: v :: u :: r, w)
  | _ => none
def ix_tsw (pc : Nat) (d lo hi : Int) (offs : Array Int) (L : ix_L) (st : List ix_V) (w : ix_W) : Option ix_S := match st with
  | .inl x :: r => if x.toInt < lo ∨ hi < x.toInt then (if 0 ≤ (pc : Int) + d then some (((pc : Int) + d).toNat, L, r, w) else none) else (match offs[(x.toInt - lo).toNat]? with
    | some off => if 0 ≤ (pc : Int) + off then some (((pc : Int) + off).toNat, L, r, w) else none
    | none => none)
  | _ => none
/-- one instruction that neither calls nor returns -/
def ix_st (pc : Nat) (e : ix_E) (L : ix_L) (st : List ix_V) (w : ix_W) : Option ix_S := match e with
  | (i, nx, a, b, _, v) => match i with
    | .iconst _ => ix_push nx v L st w
    | .bipush _ => ix_push nx v L st w
    | .sipush _ => ix_push nx v L st w
    | .ldc _ => ix_push nx v L st w
    | .ldc_w _ => ix_push nx v L st w
    | .iload _ => ix_ild nx a L st w
    | .iload_n _ => ix_ild nx a L st w
    | .aload_n _ => ix_ald nx a L st w
    | .istore _ => ix_ist nx a L st w
    | .istore_n _ => ix_ist nx a L st w
    | .iinc _ _ => ix_inc nx a v L st w
    | .iadd => ix_bi (fun x y => x + y) nx L st w
    | .isub => ix_bi (fun x y => x - y) nx L st w
    | .imul => ix_bi (fun x y => x * y) nx L st w
    | .iand => ix_bi (fun x y => x &&& y) nx L st w
    | .ior => ix_bi (fun x y => x ||| y) nx L st w
    | .ixor => ix_bi (fun x y => x ^^^ y) nx L st w
    | .ishl => ix_bi (fun x y => x <<< (y &&& 31)) nx L st w
    | .ishr => ix_bi (fun x y => x >>> (y &&& 31)) nx L st w
    | .iushr => ix_bi (fun x y => (x.toUInt32 >>> (y.toUInt32 &&& Int32.toUInt32 31)).toInt32) nx L st w
    | .idiv => ix_dv (fun x y => x / y) nx L st w
    | .irem => ix_dv (fun x y => x - x / y * y) nx L st w
    | .ineg => ix_un (fun x => -x) nx L st w
    | .ifCond c _ => ix_br1 c nx a L st w
    | .if_icmp c _ => ix_br2 c nx a L st w
    | .goto _ => some (a, L, st, w)
    | .getfield _ => ix_get nx a b L st w
    | .putfield _ => ix_put nx a b L st w
    | .iaload => ix_iald nx L st w
    | .iastore => ix_iast nx L st w
    | .arraylength => ix_alen nx L st w
    | .dup => ix_dup nx L st w
    | .dup2 => ix_dup2 nx L st w
    | .tableswitch d lo hi offs => ix_tsw pc d lo hi offs L st w
    | _ => none
/-- the locals at a method's entry -/
def ix_en (k : Nat) (as : List ix_V) : ix_L := as.map some ++ List.replicate (ix_ml k - as.length) none
/-- may k call k2 with r values left below -/
def ix_gd (k k2 r : Nat) : Bool := Nat.ble (ix_rk k2 + 1) (ix_rk k) && Nat.ble (8 + (ix_ml k2 + 11) + ix_lr k2) (ix_lr k) && Nat.ble r 8 && Nat.ble (ix_na k2) (ix_ml k2)
/-- the arguments of a call, and what is left below -/
def ix_cs (k k2 : Nat) (st : List ix_V) : Option (List ix_V × List ix_V) := if (st.take (ix_na k2)).length = ix_na k2 ∧ ix_ci k2 = 99 ∧ ix_gd k k2 (st.drop (ix_na k2)).length = true then some ((st.take (ix_na k2)).reverse, st.drop (ix_na k2)) else none
def ix_cv (k k2 : Nat) (st : List ix_V) (w : ix_W) : Option (List ix_V × List ix_V) := if (st.take (ix_na k2)).length = ix_na k2 ∧ ix_gd k k2 (st.drop (ix_na k2)).length = true then (match (st.take (ix_na k2)).reverse with
  | .inr q :: as => match w[q]? with
    | some (.inr (ci, _)) => if ci = ix_ci k2 then some (.inr q :: as, st.drop (ix_na k2)) else none
    | _ => none
  | _ => none) else none
def ix_kd (e : ix_E) : Nat := match e.1 with
  | .ireturn => 1
  | .return_ => 2
  | .invokestatic _ => 3
  | .invokevirtual _ => 4
  | _ => 0
def ix_iret (k : Nat) (st : List ix_V) (w : ix_W) : Option (Option ix_V × ix_W) := match st with
  | [.inl x] => if ix_rt k = 1 ∨ (ix_rt k = 2 ∧ (x = 0 ∨ x = 1)) then some (some (.inl x), w) else none
  | _ => none
def ix_vret (k : Nat) (st : List ix_V) (w : ix_W) : Option (Option ix_V × ix_W) := match st with
  | [] => if ix_rt k = 0 then some (none, w) else none
  | _ => none
def ix_run : Nat → Nat → Nat → ix_L → List ix_V → ix_W → Option (Option ix_V × ix_W)
  | 0, _, _, _, _, _ => none
  | n + 1, k, pc, L, st, w => match ix_lk k pc with
    | none => none
    | some e => match ix_kd e with
      | 0 => (ix_st pc e L st w).bind (fun z => ix_run n k z.1 z.2.1 z.2.2.1 z.2.2.2)
      | 1 => ix_iret k st w
      | 2 => ix_vret k st w
      | 3 => (ix_cs k e.2.2.1 st).bind (fun z => (ix_run n e.2.2.1 0 (ix_en e.2.2.1 z.1) [] w).bind (fun y => ix_run n k e.2.1 L (y.1.toList ++ z.2) y.2))
      | _ => (ix_cv k e.2.2.1 st w).bind (fun z => (ix_run n e.2.2.1 0 (ix_en e.2.2.1 z.1) [] w).bind (fun y => ix_run n k e.2.1 L (y.1.toList ++ z.2) y.2))
theorem ix_mono1 : ∀ (n k pc : Nat) (L : ix_L) (st : List ix_V) (w : ix_W) (x : Option ix_V × ix_W), ix_run n k pc L st w = some x → ix_run (n + 1) k pc L st w = some x := by
  intro n
  induction n with
  | zero => intro k pc L st w x h; exact absurd h (by simp [ix_run])
  | succ n ih =>
    intro k pc L st w x h
    rw [ix_run] at h ⊢
    cases he : ix_lk k pc with
    | none => rw [he] at h; exact absurd h (by simp)
    | some e =>
      rw [he] at h
      dsimp only at h ⊢
      split at h
      · rename_i hk
        obtain ⟨z, h1, h2⟩ := Option.bind_eq_some_iff.mp h
        rw [h1]; exact ih _ _ _ _ _ _ h2
      · rename_i hk
        exact h
      · rename_i hk
        exact h
      · rename_i hk
        obtain ⟨z, h1, h2⟩ := Option.bind_eq_some_iff.mp h
        obtain ⟨y, h3, h4⟩ := Option.bind_eq_some_iff.mp h2
        rw [h1]; show Option.bind (ix_run (n + 1) _ _ _ _ _) _ = _
        rw [ih _ _ _ _ _ _ h3]; exact ih _ _ _ _ _ _ h4
      · obtain ⟨z, h1, h2⟩ := Option.bind_eq_some_iff.mp h
        obtain ⟨y, h3, h4⟩ := Option.bind_eq_some_iff.mp h2
        rw [h1]; show Option.bind (ix_run (n + 1) _ _ _ _ _) _ = _
        rw [ih _ _ _ _ _ _ h3]; exact ih _ _ _ _ _ _ h4
theorem ix_mono {n m : Nat} (hm : n ≤ m) {k pc : Nat} {L : ix_L} {st : List ix_V} {w : ix_W} {x : Option ix_V × ix_W} (h : ix_run n k pc L st w = some x) : ix_run m k pc L st w = some x := by
  induction hm with
  | refl => exact h
  | step _ ih => exact ix_mono1 _ _ _ _ _ _ _ ih
