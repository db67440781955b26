def ix_wd (j : Nat) (w : Cond) : Bool := decide (lw_tbl[j]? = some w) && goodWord w
def ix_wn (j : Nat) (w : Cond) : Bool := decide (lw_tbl[j]? = some w)
def ix_gw : List Cond := lw_tbl.filter goodWord
theorem ix_wd_in {j : Nat} {w : Cond} (h : ix_wd j w = true) : w ∈ ix_gw := by
  unfold ix_wd at h
  rw [Bool.and_eq_true, decide_eq_true_eq] at h
  exact List.mem_filter.mpr ⟨List.mem_of_getElem? h.1, h.2⟩
theorem ix_wn_in {j : Nat} {w : Cond} (h : ix_wn j w = true) : w ∈ lw_tbl := by
  unfold ix_wn at h
  rw [decide_eq_true_eq] at h
  exact List.mem_of_getElem? h
/-- what a row of the tables must be -/
def ix_okX (k pc : Nat) (e : ix_E) : Bool := match e with
  | (i, nx, a, b, j, v) => match i with
    | .iconst n => decide (nx = pc + 1 ∧ Int32.ofInt n = v)
    | .bipush n => decide (nx = pc + 2 ∧ (Int8.ofInt n).toInt32 = v)
    | .sipush n => decide (nx = pc + 3 ∧ (Int16.ofInt n).toInt32 = v)
    | .ldc x => decide (nx = pc + 2) && ix_wd j (.constant (ix_y k).cls x v)
    | .ldc_w x => decide (nx = pc + 3) && ix_wd j (.constant (ix_y k).cls x v)
    | .iload x => decide (nx = pc + 2 ∧ x = a)
    | .iload_n x => decide (nx = pc + 1 ∧ x.val = a)
    | .aload_n x => decide (nx = pc + 1 ∧ x.val = a)
    | .istore x => decide (nx = pc + 2 ∧ x = a)
    | .istore_n x => decide (nx = pc + 1 ∧ x.val = a)
    | .iinc x n => decide (nx = pc + 3 ∧ x = a ∧ Int32.ofInt n = v)
    | .ifCond _ off => decide (nx = pc + 3 ∧ (pc : Int) + off = (a : Int))
    | .if_icmp _ off => decide (nx = pc + 3 ∧ (pc : Int) + off = (a : Int))
    | .goto off => decide (nx = pc + 3 ∧ (pc : Int) + off = (a : Int))
    | .getfield x => decide (nx = pc + 3) && (match vwCl[b]? with
      | some (C, T, N) => decide (a < N ∧ (T a).1 = C) && ix_wd j (.fieldLink (ix_y k).cls x (T a).1 (T a).2.1 (T a).2.2.1)
      | none => false)
    | .putfield x => decide (nx = pc + 3) && (match vwCl[b]? with
      | some (C, T, N) => decide (a < N ∧ (T a).2.2.1 = "I" ∧ (T a).2.2.2 = false) && ix_wd j (.fieldLink (ix_y k).cls x (T a).1 (T a).2.1 (T a).2.2.1)
      | none => false)
    | .invokestatic x => decide (nx = pc + 3 ∧ a < ix_N) && (if b = 1 then ix_wn j (.methodLinkNest (ix_y k).cls x (ix_y a) "ColdGrid") else ix_wd j (.methodLink (ix_y k).cls x (ix_y a)))
    | .invokevirtual x => decide (nx = pc + 3 ∧ a < ix_N) && ix_wd j (.methodLink (ix_y k).cls x (ix_y a))
    | .tableswitch _ _ _ _ => decide (nx = pc + b)
    | _ => decide (nx = pc + 1)
def ix_ln (e : ix_E) : Nat := match e.1 with
  | .bipush _ => 2
  | .sipush _ => 3
  | .ldc _ => 2
  | .ldc_w _ => 3
  | .iload _ => 2
  | .istore _ => 2
  | .iinc _ _ => 3
  | .ifCond _ _ => 3
  | .if_icmp _ _ => 3
  | .goto _ => 3
  | .getfield _ => 3
  | .putfield _ => 3
  | .invokestatic _ => 3
  | .invokevirtual _ => 3
  | .tableswitch _ _ _ _ => e.2.2.2.1
  | _ => 1
def ix_okB (k : Nat) (x : Nat × ix_E) : Bool := decide (decode (ix_c k) x.1 = .ok (x.2.1, ix_ln x.2)) && ix_okX k x.1 x.2
/-- what a method's own row must be -/
def ix_mB (k : Nat) : Bool := match ix_md k, ix_mt k with
  | (y, c, r, jc, ji, j1, j2), (ml, _, _, na, ci, rt) => ix_wd jc (.code y c ml r) && ix_wd ji (.initialized y.cls) && decide (y.cls ≠ "java/lang/invoke/MethodHandle" ∧ y.cls ≠ "java/lang/invoke/VarHandle") && decide (r = if rt = 0 then none else if rt = 1 then some .int else some .boolean) && decide (rt ≤ 2) && plainFor y && (if ci = 99 then ix_wd j1 (.static y) && decide ((parseMethodDescriptor y.desc).map (fun d => d.parameters.length) = some na) else ix_wd j1 (.instanceMethod y) && ix_wd j2 (.selects y.cls y y) && decide ((parseMethodDescriptor y.desc).map (fun d => d.parameters.length + 1) = some na) && (match vwCl[ci]? with
    | some (C, _, _) => decide (C = y.cls)
    | none => false))
theorem ok_X0_clear : ∀ x ∈ tb_X0_clear, ix_okB 0 x = true := by decide +kernel
theorem ok_X3_constant : ∀ x ∈ tb_X3_constant, ix_okB 1 x = true := by decide +kernel
theorem ok_X1_boundToRight : ∀ x ∈ tb_X1_boundToRight, ix_okB 2 x = true := by decide +kernel
theorem ok_X1_boundToBelow : ∀ x ∈ tb_X1_boundToBelow, ix_okB 3 x = true := by decide +kernel
theorem ok_X1_cellsOfChains : ∀ x ∈ tb_X1_cellsOfChains, ix_okB 4 x = true := by decide +kernel
theorem ok_X4_isIn : ∀ x ∈ tb_X4_isIn, ix_okB 5 x = true := by decide +kernel
theorem ok_X0_listCells : ∀ x ∈ tb_X0_listCells, ix_okB 6 x = true := by decide +kernel
theorem ok_X3_size : ∀ x ∈ tb_X3_size, ix_okB 7 x = true := by decide +kernel
theorem ok_J6_numberOfTrailingZeros_0f7a4 : ∀ x ∈ tb_J6_numberOfTrailingZeros_0f7a4, ix_okB 8 x = true := by decide +kernel
theorem ok_X1_leastCellOf : ∀ x ∈ tb_X1_leastCellOf, ix_okB 9 x = true := by decide +kernel
theorem ok_X3_place : ∀ x ∈ tb_X3_place, ix_okB 10 x = true := by decide +kernel
theorem ok_X3_between : ∀ x ∈ tb_X3_between, ix_okB 11 x = true := by decide +kernel
theorem ok_X4_isWithin : ∀ x ∈ tb_X4_isWithin, ix_okB 12 x = true := by decide +kernel
theorem ok_X0_addOwn : ∀ x ∈ tb_X0_addOwn, ix_okB 13 x = true := by decide +kernel
theorem ok_X1_neighboursOf : ∀ x ∈ tb_X1_neighboursOf, ix_okB 14 x = true := by decide +kernel
theorem ok_X1_linkFrom : ∀ x ∈ tb_X1_linkFrom, ix_okB 15 x = true := by decide +kernel
theorem ok_X1_linkTo : ∀ x ∈ tb_X1_linkTo, ix_okB 16 x = true := by decide +kernel
theorem ok_J9_min_7cf53 : ∀ x ∈ tb_J9_min_7cf53, ix_okB 17 x = true := by decide +kernel
theorem ok_J9_max_7cf53 : ∀ x ∈ tb_J9_max_7cf53, ix_okB 18 x = true := by decide +kernel
theorem ok_X0_addLink : ∀ x ∈ tb_X0_addLink, ix_okB 19 x = true := by decide +kernel
theorem ok_X0_layOut : ∀ x ∈ tb_X0_layOut, ix_okB 20 x = true := by decide +kernel
theorem ok_X0_gainOf : ∀ x ∈ tb_X0_gainOf, ix_okB 21 x = true := by decide +kernel
theorem ok_J6_bitCount_0f7a4 : ∀ x ∈ tb_J6_bitCount_0f7a4, ix_okB 22 x = true := by decide +kernel
theorem ok_X0_unlikeNeighbours : ∀ x ∈ tb_X0_unlikeNeighbours, ix_okB 23 x = true := by decide +kernel
theorem ok_X0_leastHold : ∀ x ∈ tb_X0_leastHold, ix_okB 24 x = true := by decide +kernel
theorem ok_X1_isDead : ∀ x ∈ tb_X1_isDead, ix_okB 25 x = true := by decide +kernel
theorem ok_X1_setDead : ∀ x ∈ tb_X1_setDead, ix_okB 26 x = true := by decide +kernel
theorem ok_X1_deadCells : ∀ x ∈ tb_X1_deadCells, ix_okB 27 x = true := by decide +kernel
theorem ok_X1_setChain : ∀ x ∈ tb_X1_setChain, ix_okB 28 x = true := by decide +kernel
theorem ok_X1_forgetChains : ∀ x ∈ tb_X1_forgetChains, ix_okB 29 x = true := by decide +kernel
theorem ok_X1_chainLengths : ∀ x ∈ tb_X1_chainLengths, ix_okB 30 x = true := by decide +kernel
theorem ok_X1_isAnyEmpty : ∀ x ∈ tb_X1_isAnyEmpty, ix_okB 31 x = true := by decide +kernel
theorem ok_J6_lowestOneBit_0f7a4 : ∀ x ∈ tb_J6_lowestOneBit_0f7a4, ix_okB 32 x = true := by decide +kernel
theorem ok_X1_hangsTogether : ∀ x ∈ tb_X1_hangsTogether, ix_okB 33 x = true := by decide +kernel
theorem ok_X1_isAnyTorn : ∀ x ∈ tb_X1_isAnyTorn, ix_okB 34 x = true := by decide +kernel
theorem ok_X1_isAnyPairApart : ∀ x ∈ tb_X1_isAnyPairApart, ix_okB 35 x = true := by decide +kernel
theorem ok_X1_firstFailing : ∀ x ∈ tb_X1_firstFailing, ix_okB 36 x = true := by decide +kernel
theorem ok_X1_mostOf : ∀ x ∈ tb_X1_mostOf, ix_okB 37 x = true := by decide +kernel
theorem ok_X2_size : ∀ x ∈ tb_X2_size, ix_okB 38 x = true := by decide +kernel
theorem ok_X2_add : ∀ x ∈ tb_X2_add, ix_okB 39 x = true := by decide +kernel
theorem ok_X2_dropLast : ∀ x ∈ tb_X2_dropLast, ix_okB 40 x = true := by decide +kernel
theorem ok_X2_forgetAll : ∀ x ∈ tb_X2_forgetAll, ix_okB 41 x = true := by decide +kernel
theorem ok_X2_missedBy : ∀ x ∈ tb_X2_missedBy, ix_okB 42 x = true := by decide +kernel
theorem ok_X3_startAnew : ∀ x ∈ tb_X3_startAnew, ix_okB 43 x = true := by decide +kernel
theorem ok_X3_states : ∀ x ∈ tb_X3_states, ix_okB 44 x = true := by decide +kernel
theorem ok_X3_setBetween : ∀ x ∈ tb_X3_setBetween, ix_okB 45 x = true := by decide +kernel
theorem ok_X3_weightedPairs : ∀ x ∈ tb_X3_weightedPairs, ix_okB 46 x = true := by decide +kernel
theorem ok_X3_gainOf : ∀ x ∈ tb_X3_gainOf, ix_okB 47 x = true := by decide +kernel
theorem ok_X3_energyOf : ∀ x ∈ tb_X3_energyOf, ix_okB 48 x = true := by decide +kernel
theorem ok_X3_fillEnergies : ∀ x ∈ tb_X3_fillEnergies, ix_okB 49 x = true := by decide +kernel
theorem ok_X3_changeBy : ∀ x ∈ tb_X3_changeBy, ix_okB 50 x = true := by decide +kernel
theorem ok_X3_valueToFix : ∀ x ∈ tb_X3_valueToFix, ix_okB 51 x = true := by decide +kernel
theorem ok_X3_lowerBound : ∀ x ∈ tb_X3_lowerBound, ix_okB 52 x = true := by decide +kernel
theorem ok_X3_turnedBetween : ∀ x ∈ tb_X3_turnedBetween, ix_okB 53 x = true := by decide +kernel
theorem ok_X3_turnBy : ∀ x ∈ tb_X3_turnBy, ix_okB 54 x = true := by decide +kernel
theorem ok_J9_abs_0f7a4 : ∀ x ∈ tb_J9_abs_0f7a4, ix_okB 55 x = true := by decide +kernel
theorem ok_X3_nearestMultiple : ∀ x ∈ tb_X3_nearestMultiple, ix_okB 56 x = true := by decide +kernel
theorem ok_X3_cutTo : ∀ x ∈ tb_X3_cutTo, ix_okB 57 x = true := by decide +kernel
theorem ok_X4_letters : ∀ x ∈ tb_X4_letters, ix_okB 58 x = true := by decide +kernel
theorem ok_X4_isLetter : ∀ x ∈ tb_X4_isLetter, ix_okB 59 x = true := by decide +kernel
theorem ok_X4_weigh : ∀ x ∈ tb_X4_weigh, ix_okB 60 x = true := by decide +kernel
theorem ok_X4_weight : ∀ x ∈ tb_X4_weight, ix_okB 61 x = true := by decide +kernel
theorem ok_X4_isSetOfLetters : ∀ x ∈ tb_X4_isSetOfLetters, ix_okB 62 x = true := by decide +kernel
theorem ok_X4_energy : ∀ x ∈ tb_X4_energy, ix_okB 63 x = true := by decide +kernel
theorem ok_X4_law : ∀ x ∈ tb_X4_law, ix_okB 64 x = true := by decide +kernel
theorem ok_X4_unlaw : ∀ x ∈ tb_X4_unlaw, ix_okB 65 x = true := by decide +kernel
theorem ok_X4_isPull : ∀ x ∈ tb_X4_isPull, ix_okB 66 x = true := by decide +kernel
theorem ok_X4_fillWeighed : ∀ x ∈ tb_X4_fillWeighed, ix_okB 67 x = true := by decide +kernel
theorem ok_X4_leastOfRow : ∀ x ∈ tb_X4_leastOfRow, ix_okB 68 x = true := by decide +kernel
theorem ok_X4_best : ∀ x ∈ tb_X4_best, ix_okB 69 x = true := by decide +kernel
theorem ok_X4_listBest : ∀ x ∈ tb_X4_listBest, ix_okB 70 x = true := by decide +kernel
theorem ok_X4_many : ∀ x ∈ tb_X4_many, ix_okB 71 x = true := by decide +kernel
theorem ok_X4_bestAt : ∀ x ∈ tb_X4_bestAt, ix_okB 72 x = true := by decide +kernel
theorem ok_X4_bestKeeper : ∀ x ∈ tb_X4_bestKeeper, ix_okB 73 x = true := by decide +kernel
theorem ok_X4_pull : ∀ x ∈ tb_X4_pull, ix_okB 74 x = true := by decide +kernel
theorem ok_X4_fixed : ∀ x ∈ tb_X4_fixed, ix_okB 75 x = true := by decide +kernel
theorem ok_X4_floor : ∀ x ∈ tb_X4_floor, ix_okB 76 x = true := by decide +kernel
theorem ok_X4_kill : ∀ x ∈ tb_X4_kill, ix_okB 77 x = true := by decide +kernel
theorem ok_X4_chain : ∀ x ∈ tb_X4_chain, ix_okB 78 x = true := by decide +kernel
theorem ok_X4_stands : ∀ x ∈ tb_X4_stands, ix_okB 79 x = true := by decide +kernel
theorem ok_X4_link : ∀ x ∈ tb_X4_link, ix_okB 80 x = true := by decide +kernel
theorem ok_X4_strong : ∀ x ∈ tb_X4_strong, ix_okB 81 x = true := by decide +kernel
theorem ok_X4_readBack : ∀ x ∈ tb_X4_readBack, ix_okB 82 x = true := by decide +kernel
theorem ok_X4_turn : ∀ x ∈ tb_X4_turn, ix_okB 83 x = true := by decide +kernel
theorem ok_X4_cut : ∀ x ∈ tb_X4_cut, ix_okB 84 x = true := by decide +kernel
theorem ok_X4_walk : ∀ x ∈ tb_X4_walk, ix_okB 85 x = true := by decide +kernel
theorem ok_X4_count : ∀ x ∈ tb_X4_count, ix_okB 86 x = true := by decide +kernel
theorem ok_X5_in : ∀ x ∈ tb_X5_in, ix_okB 87 x = true := by decide +kernel
theorem ok_X5_size : ∀ x ∈ tb_X5_size, ix_okB 88 x = true := by decide +kernel
theorem ok_X5_ones : ∀ x ∈ tb_X5_ones, ix_okB 89 x = true := by decide +kernel
theorem ok_X5_isLetter : ∀ x ∈ tb_X5_isLetter, ix_okB 90 x = true := by decide +kernel
theorem ok_X5_isState : ∀ x ∈ tb_X5_isState, ix_okB 91 x = true := by decide +kernel
theorem ok_X5_letters : ∀ x ∈ tb_X5_letters, ix_okB 92 x = true := by decide +kernel
theorem ok_X5_putWeight : ∀ x ∈ tb_X5_putWeight, ix_okB 93 x = true := by decide +kernel
theorem ok_X5_weigh : ∀ x ∈ tb_X5_weigh, ix_okB 94 x = true := by decide +kernel
theorem ok_X5_weight : ∀ x ∈ tb_X5_weight, ix_okB 95 x = true := by decide +kernel
theorem ok_X5_energyOf : ∀ x ∈ tb_X5_energyOf, ix_okB 96 x = true := by decide +kernel
theorem ok_X5_energy : ∀ x ∈ tb_X5_energy, ix_okB 97 x = true := by decide +kernel
theorem ok_X5_law : ∀ x ∈ tb_X5_law, ix_okB 98 x = true := by decide +kernel
theorem ok_X5_unlaw : ∀ x ∈ tb_X5_unlaw, ix_okB 99 x = true := by decide +kernel
theorem ok_X5_missed : ∀ x ∈ tb_X5_missed, ix_okB 100 x = true := by decide +kernel
theorem ok_X5_weighed : ∀ x ∈ tb_X5_weighed, ix_okB 101 x = true := by decide +kernel
theorem ok_X5_leastBy : ∀ x ∈ tb_X5_leastBy, ix_okB 102 x = true := by decide +kernel
theorem ok_X5_isPull : ∀ x ∈ tb_X5_isPull, ix_okB 103 x = true := by decide +kernel
theorem ok_X5_best : ∀ x ∈ tb_X5_best, ix_okB 104 x = true := by decide +kernel
theorem ok_X5_many : ∀ x ∈ tb_X5_many, ix_okB 105 x = true := by decide +kernel
theorem ok_X5_bestAt : ∀ x ∈ tb_X5_bestAt, ix_okB 106 x = true := by decide +kernel
theorem ok_X5_pull : ∀ x ∈ tb_X5_pull, ix_okB 107 x = true := by decide +kernel
theorem ok_X5_mayBe : ∀ x ∈ tb_X5_mayBe, ix_okB 108 x = true := by decide +kernel
theorem ok_X5_fixAll : ∀ x ∈ tb_X5_fixAll, ix_okB 109 x = true := by decide +kernel
theorem ok_X5_fixed : ∀ x ∈ tb_X5_fixed, ix_okB 110 x = true := by decide +kernel
theorem ok_X5_floor : ∀ x ∈ tb_X5_floor, ix_okB 111 x = true := by decide +kernel
theorem ok_X5_kill : ∀ x ∈ tb_X5_kill, ix_okB 112 x = true := by decide +kernel
theorem ok_X5_chain : ∀ x ∈ tb_X5_chain, ix_okB 113 x = true := by decide +kernel
theorem ok_X5_beside : ∀ x ∈ tb_X5_beside, ix_okB 114 x = true := by decide +kernel
theorem ok_X5_firstOf : ∀ x ∈ tb_X5_firstOf, ix_okB 115 x = true := by decide +kernel
theorem ok_X5_hangs : ∀ x ∈ tb_X5_hangs, ix_okB 116 x = true := by decide +kernel
theorem ok_X5_all : ∀ x ∈ tb_X5_all, ix_okB 117 x = true := by decide +kernel
theorem ok_X5_together : ∀ x ∈ tb_X5_together, ix_okB 118 x = true := by decide +kernel
theorem ok_X5_fails : ∀ x ∈ tb_X5_fails, ix_okB 119 x = true := by decide +kernel
theorem ok_X5_stands : ∀ x ∈ tb_X5_stands, ix_okB 120 x = true := by decide +kernel
theorem ok_X5_linkOf : ∀ x ∈ tb_X5_linkOf, ix_okB 121 x = true := by decide +kernel
theorem ok_X5_link : ∀ x ∈ tb_X5_link, ix_okB 122 x = true := by decide +kernel
theorem ok_X5_spread : ∀ x ∈ tb_X5_spread, ix_okB 123 x = true := by decide +kernel
theorem ok_X5_layGrid : ∀ x ∈ tb_X5_layGrid, ix_okB 124 x = true := by decide +kernel
theorem ok_X5_energyOn : ∀ x ∈ tb_X5_energyOn, ix_okB 125 x = true := by decide +kernel
theorem ok_X5_unlike : ∀ x ∈ tb_X5_unlike, ix_okB 126 x = true := by decide +kernel
theorem ok_X5_strong : ∀ x ∈ tb_X5_strong, ix_okB 127 x = true := by decide +kernel
theorem ok_X5_readBack : ∀ x ∈ tb_X5_readBack, ix_okB 128 x = true := by decide +kernel
theorem ok_X5_turnOne : ∀ x ∈ tb_X5_turnOne, ix_okB 129 x = true := by decide +kernel
theorem ok_X5_turn : ∀ x ∈ tb_X5_turn, ix_okB 130 x = true := by decide +kernel
theorem ok_X5_cutOf : ∀ x ∈ tb_X5_cutOf, ix_okB 131 x = true := by decide +kernel
theorem ok_X5_cut : ∀ x ∈ tb_X5_cut, ix_okB 132 x = true := by decide +kernel
theorem ok_X5_walk : ∀ x ∈ tb_X5_walk, ix_okB 133 x = true := by decide +kernel
theorem ok_X5_count : ∀ x ∈ tb_X5_count, ix_okB 134 x = true := by decide +kernel
theorem mb_0 : ∀ i, i < 16 → ix_mB (0 + i) = true := by decide +kernel
theorem mb_1 : ∀ i, i < 16 → ix_mB (16 + i) = true := by decide +kernel
theorem mb_2 : ∀ i, i < 16 → ix_mB (32 + i) = true := by decide +kernel
theorem mb_3 : ∀ i, i < 16 → ix_mB (48 + i) = true := by decide +kernel
theorem mb_4 : ∀ i, i < 16 → ix_mB (64 + i) = true := by decide +kernel
theorem mb_5 : ∀ i, i < 16 → ix_mB (80 + i) = true := by decide +kernel
theorem mb_6 : ∀ i, i < 16 → ix_mB (96 + i) = true := by decide +kernel
theorem mb_7 : ∀ i, i < 16 → ix_mB (112 + i) = true := by decide +kernel
theorem mb_8 : ∀ i, i < 7 → ix_mB (128 + i) = true := by decide +kernel
theorem ix_lk_ok0 {l : List (Nat × ix_E)} {k : Nat} (h : ∀ x ∈ l, ix_okB k x = true) {pc : Nat} {e : ix_E} (he : l.lookup pc = some e) : ix_okB k (pc, e) = true := by
  induction l with
  | nil => exact absurd he (by simp)
  | cons x r ih =>
    obtain ⟨a, b⟩ := x
    rw [List.lookup_cons] at he
    by_cases hc : (pc == a) = true
    · rw [hc] at he
      have e1 : pc = a := by simpa using hc
      have e2 : b = e := Option.some.inj he
      subst e1; subst e2
      exact h _ List.mem_cons_self
    · have hc2 : (pc == a) = false := by simpa using hc
      rw [hc2] at he
      exact ih (fun x hx => h x (List.mem_cons_of_mem _ hx)) he
theorem okh_0 : ∀ i, ∀ x ∈ (ix_tbs0.getD i []), ix_okB (0 + i) x = true := by
  intro i
  match i with
  | 0 => exact ok_X0_clear
  | 1 => exact ok_X3_constant
  | 2 => exact ok_X1_boundToRight
  | 3 => exact ok_X1_boundToBelow
  | 4 => exact ok_X1_cellsOfChains
  | 5 => exact ok_X4_isIn
  | 6 => exact ok_X0_listCells
  | 7 => exact ok_X3_size
  | 8 => exact ok_J6_numberOfTrailingZeros_0f7a4
  | 9 => exact ok_X1_leastCellOf
  | 10 => exact ok_X3_place
  | 11 => exact ok_X3_between
  | 12 => exact ok_X4_isWithin
  | 13 => exact ok_X0_addOwn
  | 14 => exact ok_X1_neighboursOf
  | 15 => exact ok_X1_linkFrom
  | i + 16 => intro x hx; exact absurd hx (by simp [ix_tbs0])
theorem okh_1 : ∀ i, ∀ x ∈ (ix_tbs1.getD i []), ix_okB (16 + i) x = true := by
  intro i
  match i with
  | 0 => exact ok_X1_linkTo
  | 1 => exact ok_J9_min_7cf53
  | 2 => exact ok_J9_max_7cf53
  | 3 => exact ok_X0_addLink
  | 4 => exact ok_X0_layOut
  | 5 => exact ok_X0_gainOf
  | 6 => exact ok_J6_bitCount_0f7a4
  | 7 => exact ok_X0_unlikeNeighbours
  | 8 => exact ok_X0_leastHold
  | 9 => exact ok_X1_isDead
  | 10 => exact ok_X1_setDead
  | 11 => exact ok_X1_deadCells
  | 12 => exact ok_X1_setChain
  | 13 => exact ok_X1_forgetChains
  | 14 => exact ok_X1_chainLengths
  | 15 => exact ok_X1_isAnyEmpty
  | i + 16 => intro x hx; exact absurd hx (by simp [ix_tbs1])
theorem okh_2 : ∀ i, ∀ x ∈ (ix_tbs2.getD i []), ix_okB (32 + i) x = true := by
  intro i
  match i with
  | 0 => exact ok_J6_lowestOneBit_0f7a4
  | 1 => exact ok_X1_hangsTogether
  | 2 => exact ok_X1_isAnyTorn
  | 3 => exact ok_X1_isAnyPairApart
  | 4 => exact ok_X1_firstFailing
  | 5 => exact ok_X1_mostOf
  | 6 => exact ok_X2_size
  | 7 => exact ok_X2_add
  | 8 => exact ok_X2_dropLast
  | 9 => exact ok_X2_forgetAll
  | 10 => exact ok_X2_missedBy
  | 11 => exact ok_X3_startAnew
  | 12 => exact ok_X3_states
  | 13 => exact ok_X3_setBetween
  | 14 => exact ok_X3_weightedPairs
  | 15 => exact ok_X3_gainOf
  | i + 16 => intro x hx; exact absurd hx (by simp [ix_tbs2])
theorem okh_3 : ∀ i, ∀ x ∈ (ix_tbs3.getD i []), ix_okB (48 + i) x = true := by
  intro i
  match i with
  | 0 => exact ok_X3_energyOf
  | 1 => exact ok_X3_fillEnergies
  | 2 => exact ok_X3_changeBy
  | 3 => exact ok_X3_valueToFix
  | 4 => exact ok_X3_lowerBound
  | 5 => exact ok_X3_turnedBetween
  | 6 => exact ok_X3_turnBy
  | 7 => exact ok_J9_abs_0f7a4
  | 8 => exact ok_X3_nearestMultiple
  | 9 => exact ok_X3_cutTo
  | 10 => exact ok_X4_letters
  | 11 => exact ok_X4_isLetter
  | 12 => exact ok_X4_weigh
  | 13 => exact ok_X4_weight
  | 14 => exact ok_X4_isSetOfLetters
  | 15 => exact ok_X4_energy
  | i + 16 => intro x hx; exact absurd hx (by simp [ix_tbs3])
theorem okh_4 : ∀ i, ∀ x ∈ (ix_tbs4.getD i []), ix_okB (64 + i) x = true := by
  intro i
  match i with
  | 0 => exact ok_X4_law
  | 1 => exact ok_X4_unlaw
  | 2 => exact ok_X4_isPull
  | 3 => exact ok_X4_fillWeighed
  | 4 => exact ok_X4_leastOfRow
  | 5 => exact ok_X4_best
  | 6 => exact ok_X4_listBest
  | 7 => exact ok_X4_many
  | 8 => exact ok_X4_bestAt
  | 9 => exact ok_X4_bestKeeper
  | 10 => exact ok_X4_pull
  | 11 => exact ok_X4_fixed
  | 12 => exact ok_X4_floor
  | 13 => exact ok_X4_kill
  | 14 => exact ok_X4_chain
  | 15 => exact ok_X4_stands
  | i + 16 => intro x hx; exact absurd hx (by simp [ix_tbs4])
theorem okh_5 : ∀ i, ∀ x ∈ (ix_tbs5.getD i []), ix_okB (80 + i) x = true := by
  intro i
  match i with
  | 0 => exact ok_X4_link
  | 1 => exact ok_X4_strong
  | 2 => exact ok_X4_readBack
  | 3 => exact ok_X4_turn
  | 4 => exact ok_X4_cut
  | 5 => exact ok_X4_walk
  | 6 => exact ok_X4_count
  | 7 => exact ok_X5_in
  | 8 => exact ok_X5_size
  | 9 => exact ok_X5_ones
  | 10 => exact ok_X5_isLetter
  | 11 => exact ok_X5_isState
  | 12 => exact ok_X5_letters
  | 13 => exact ok_X5_putWeight
  | 14 => exact ok_X5_weigh
  | 15 => exact ok_X5_weight
  | i + 16 => intro x hx; exact absurd hx (by simp [ix_tbs5])
theorem okh_6 : ∀ i, ∀ x ∈ (ix_tbs6.getD i []), ix_okB (96 + i) x = true := by
  intro i
  match i with
  | 0 => exact ok_X5_energyOf
  | 1 => exact ok_X5_energy
  | 2 => exact ok_X5_law
  | 3 => exact ok_X5_unlaw
  | 4 => exact ok_X5_missed
  | 5 => exact ok_X5_weighed
  | 6 => exact ok_X5_leastBy
  | 7 => exact ok_X5_isPull
  | 8 => exact ok_X5_best
  | 9 => exact ok_X5_many
  | 10 => exact ok_X5_bestAt
  | 11 => exact ok_X5_pull
  | 12 => exact ok_X5_mayBe
  | 13 => exact ok_X5_fixAll
  | 14 => exact ok_X5_fixed
  | 15 => exact ok_X5_floor
  | i + 16 => intro x hx; exact absurd hx (by simp [ix_tbs6])
theorem okh_7 : ∀ i, ∀ x ∈ (ix_tbs7.getD i []), ix_okB (112 + i) x = true := by
  intro i
  match i with
  | 0 => exact ok_X5_kill
  | 1 => exact ok_X5_chain
  | 2 => exact ok_X5_beside
  | 3 => exact ok_X5_firstOf
  | 4 => exact ok_X5_hangs
  | 5 => exact ok_X5_all
  | 6 => exact ok_X5_together
  | 7 => exact ok_X5_fails
  | 8 => exact ok_X5_stands
  | 9 => exact ok_X5_linkOf
  | 10 => exact ok_X5_link
  | 11 => exact ok_X5_spread
  | 12 => exact ok_X5_layGrid
  | 13 => exact ok_X5_energyOn
  | 14 => exact ok_X5_unlike
  | 15 => exact ok_X5_strong
  | i + 16 => intro x hx; exact absurd hx (by simp [ix_tbs7])
theorem okh_8 : ∀ i, ∀ x ∈ (ix_tbs8.getD i []), ix_okB (128 + i) x = true := by
  intro i
  match i with
  | 0 => exact ok_X5_readBack
  | 1 => exact ok_X5_turnOne
  | 2 => exact ok_X5_turn
  | 3 => exact ok_X5_cutOf
  | 4 => exact ok_X5_cut
  | 5 => exact ok_X5_walk
  | 6 => exact ok_X5_count
  | i + 7 => intro x hx; exact absurd hx (by simp [ix_tbs8])
theorem ix_tb_ok : ∀ k, ∀ x ∈ ix_tb k, ix_okB k x = true := by
  intro k
  have e : k = 16 * (k / 16) + k % 16 := (Nat.div_add_mod k 16).symm
  unfold ix_tb
  generalize hh : k / 16 = h at e ⊢
  generalize hl : k % 16 = i at e ⊢
  subst e
  match h with
  | 0 => exact okh_0 i
  | 1 => exact okh_1 i
  | 2 => exact okh_2 i
  | 3 => exact okh_3 i
  | 4 => exact okh_4 i
  | 5 => exact okh_5 i
  | 6 => exact okh_6 i
  | 7 => exact okh_7 i
  | 8 => exact okh_8 i
  | h + 9 => intro x hx; exact absurd hx (by simp [ix_tbs])
theorem ix_ok {k pc : Nat} {e : ix_E} (he : ix_lk k pc = some e) : decode (ix_c k) pc = .ok (e.1, ix_ln e) ∧ ix_okX k pc e = true := by
  have h := ix_lk_ok0 (ix_tb_ok k) he
  unfold ix_okB at h
  rw [Bool.and_eq_true, decide_eq_true_eq] at h
  exact h
theorem ix_mb {k : Nat} (hk : k < ix_N) : ix_mB k = true := by
  have hN : k < 135 := hk
  have e : k = 16 * (k / 16) + k % 16 := (Nat.div_add_mod k 16).symm
  have h2 : k % 16 < 16 := Nat.mod_lt _ (by decide)
  have h1 : k / 16 < 9 := by omega
  generalize hh : k / 16 = h at e h1
  generalize hl : k % 16 = i at e h2
  match h, h1 with
  | 0, _ => rw [e]; exact mb_0 i (by omega)
  | 1, _ => rw [e]; exact mb_1 i (by omega)
  | 2, _ => rw [e]; exact mb_2 i (by omega)
  | 3, _ => rw [e]; exact mb_3 i (by omega)
  | 4, _ => rw [e]; exact mb_4 i (by omega)
  | 5, _ => rw [e]; exact mb_5 i (by omega)
  | 6, _ => rw [e]; exact mb_6 i (by omega)
  | 7, _ => rw [e]; exact mb_7 i (by omega)
  | 8, _ => rw [e]; exact mb_8 i (by omega)
  | h + 9, h1 => exact absurd h1 (by omega)
theorem ix_uw0 : ∀ w ∈ wsX00, w ∈ ix_gw := by
  have h : ∀ w ∈ wsX00, (decide (w ∈ lw_tbl) && goodWord w) = true := by decide +kernel
  intro w hw
  have := h w hw
  rw [Bool.and_eq_true, decide_eq_true_eq] at this
  exact List.mem_filter.mpr this
theorem ix_uw1 : ∀ w ∈ wsX10, w ∈ ix_gw := by
  have h : ∀ w ∈ wsX10, (decide (w ∈ lw_tbl) && goodWord w) = true := by decide +kernel
  intro w hw
  have := h w hw
  rw [Bool.and_eq_true, decide_eq_true_eq] at this
  exact List.mem_filter.mpr this
theorem ix_uw2 : ∀ w ∈ wsX20, w ∈ ix_gw := by
  have h : ∀ w ∈ wsX20, (decide (w ∈ lw_tbl) && goodWord w) = true := by decide +kernel
  intro w hw
  have := h w hw
  rw [Bool.and_eq_true, decide_eq_true_eq] at this
  exact List.mem_filter.mpr this
theorem ix_uw3 : ∀ w ∈ wsX30, w ∈ ix_gw := by
  have h : ∀ w ∈ wsX30, (decide (w ∈ lw_tbl) && goodWord w) = true := by decide +kernel
  intro w hw
  have := h w hw
  rw [Bool.and_eq_true, decide_eq_true_eq] at this
  exact List.mem_filter.mpr this
theorem ix_uw4 : ∀ w ∈ wsX40, w ∈ ix_gw := by
  have h : ∀ w ∈ wsX40, (decide (w ∈ lw_tbl) && goodWord w) = true := by decide +kernel
  intro w hw
  have := h w hw
  rw [Bool.and_eq_true, decide_eq_true_eq] at this
  exact List.mem_filter.mpr this
theorem ix_uw5 : ∀ w ∈ wsX50, w ∈ ix_gw := by
  have h : ∀ w ∈ wsX50, (decide (w ∈ lw_tbl) && goodWord w) = true := by decide +kernel
  intro w hw
  have := h w hw
  rw [Bool.and_eq_true, decide_eq_true_eq] at this
  exact List.mem_filter.mpr this
theorem ix_uw {b : Nat} {C : String} {T : u_T} {N : Nat} (h : vwCl[b]? = some (C, T, N)) : ∀ w ∈ u_ws C T N, w ∈ ix_gw := by
  match b, h with
  | 0, h => cases h; exact ix_uw0
  | 1, h => cases h; exact ix_uw1
  | 2, h => cases h; exact ix_uw2
  | 3, h => cases h; exact ix_uw3
  | 4, h => cases h; exact ix_uw4
  | 5, h => cases h; exact ix_uw5
  | b + 6, h => exact absurd h (by simp)
theorem ix_ut {b : Nat} {C : String} {T : u_T} {N : Nat} (h : vwCl[b]? = some (C, T, N)) : (∃ ty : Nat → FieldType, ∀ k, k < N → parseFieldDescriptor (T k).2.2.1 = some (ty k)) ∧ (∀ x, x < N → ∀ y, y < N → x ≠ y → (T x).2.1 ≠ (T y).2.1) := by
  match b, h with
  | 0, h => cases h; exact ⟨⟨tyX0, tyX0_ok⟩, nmX0⟩
  | 1, h => cases h; exact ⟨⟨tyX1, tyX1_ok⟩, nmX1⟩
  | 2, h => cases h; exact ⟨⟨tyX2, tyX2_ok⟩, nmX2⟩
  | 3, h => cases h; exact ⟨⟨tyX3, tyX3_ok⟩, nmX3⟩
  | 4, h => cases h; exact ⟨⟨tyX4, tyX4_ok⟩, nmX4⟩
  | 5, h => cases h; exact ⟨⟨tyX5, tyX5_ok⟩, nmX5⟩
  | b + 6, h => exact absurd h (by simp)
